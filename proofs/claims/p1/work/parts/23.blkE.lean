/-! PRINTED by wip/whole/genblocks.py: the blocks of the methods of X11 -/
theorem b_X11_init {d : Nat} {h : mxH} {Q : mxRes → mxH → Prop} (x0 : Nat)
    (P : 1 ≤ d ∧ ∀ (b1 : Nat) (h1 : mxH), b1 = hpN h → h1 = hnw h 13 700 700 → hpK h1 x0 = 11 ∧ ∀ h2 : mxH, h2 = hsR h1 x0 0 (some b1) → ∀ (b2 : Nat) (h3 : mxH), b2 = hpN h2 → h3 = hnw h2 13 80 80 → hpK h3 x0 = 11 ∧ ∀ h4 : mxH, h4 = hsR h3 x0 2 (some b2) → ∀ (b3 : Nat) (h5 : mxH), b3 = hpN h4 → h5 = hnw h4 3 0 5 → mx_SM mY_X3_init (d - 1) [.ref b3] h5 (mx_KV (fun h6 => hpK h6 x0 = 11 ∧ ∀ h7 : mxH, h7 = hsR h6 x0 4 (some b3) → ∀ (b4 : Nat) (h8 : mxH), b4 = hpN h7 → h8 = hnw h7 0 0 8 → mx_SM mY_X0_init (d - 1) [.ref b4] h8 (mx_KV (fun h9 => ∀ (b5 : Nat) (h10 : mxH), b5 = hpN h9 → h10 = hnw h9 10 0 14 → mx_SM mY_X10_init (d - 1) [.ref b5, .ref b4] h10 (mx_KV (fun h11 => hpK h11 x0 = 11 ∧ ∀ h12 : mxH, h12 = hsR h11 x0 5 (some b5) → ∀ (b6 : Nat) (h13 : mxH), b6 = hpN h12 → h13 = hnw h12 20 6 6 → hpK h13 x0 = 11 ∧ ∀ h14 : mxH, h14 = hsR h13 x0 6 (some b6) → mx_SX mY_X11_init d 63 [(0, .ref x0), (1, .ref b4), (2, .int (0 : Int32))] [] h14 Q) fun _ _ => False)) fun _ _ => False)) fun _ _ => False)) : mx_SM mY_X11_init d [.ref x0] h Q := by
  refine mx_SM_of (by decide) (Nat.le_of_ble_eq_true rfl) ?_
  show mx_SX mY_X11_init d 0 [(0, .ref x0)] [] h Q
  refine mx_aload_n (pc := 0) 0 (mx_dd dd_X11_init_0 0 (0, .aload_n 0, 1) rfl) rfl rfl ?_
  obtain ⟨g1, P⟩ := P
  refine mx_objInit (pc := 1) mx_oi_X11_1 mx_oii mx_oic (by decide) (mx_dd dd_X11_init_0 1 (1, .invokespecial 1, 3) rfl) g1 ?_
  refine mx_aload_n (pc := 4) 0 (mx_dd dd_X11_init_0 2 (4, .aload_n 0, 1) rfl) rfl rfl ?_
  refine mx_sipush (pc := 5) (v := (700 : Int32)) (mx_dd dd_X11_init_0 3 (5, .sipush 700, 3) rfl) (by decide) ?_
  refine mx_newa (pc := 8) (N := 700) (kd := 13) (by decide) rfl mx_ac_13 (by decide) (by decide) (by decide) (mx_dd dd_X11_init_0 4 (8, .newarray .byte, 2) rfl) ?_
  have P := P _ _ rfl rfl
  obtain ⟨g2, P⟩ := P
  refine mx_putR (pc := 10) mx_fl_X11_9 g2 rfl (.inr ⟨rfl, rfl, rfl⟩) (mx_dd dd_X11_init_0 5 (10, .putfield 9, 3) rfl) ?_
  have P := P _ rfl
  refine mx_aload_n (pc := 13) 0 (mx_dd dd_X11_init_0 6 (13, .aload_n 0, 1) rfl) rfl rfl ?_
  refine mx_bipush (pc := 14) (v := (80 : Int32)) (mx_dd dd_X11_init_0 7 (14, .bipush 80, 2) rfl) (by decide) ?_
  refine mx_newa (pc := 16) (N := 80) (kd := 13) (by decide) rfl mx_ac_13 (by decide) (by decide) (by decide) (mx_dd dd_X11_init_0 8 (16, .newarray .byte, 2) rfl) ?_
  have P := P _ _ rfl rfl
  obtain ⟨g3, P⟩ := P
  refine mx_putR (pc := 18) mx_fl_X11_13 g3 rfl (.inr ⟨rfl, rfl, rfl⟩) (mx_dd dd_X11_init_0 9 (18, .putfield 13, 3) rfl) ?_
  have P := P _ rfl
  refine mx_aload_n (pc := 21) 0 (mx_dd dd_X11_init_0 10 (21, .aload_n 0, 1) rfl) rfl rfl ?_
  refine mx_new (pc := 22) mx_nw_X11_16 (mx_nofd _) (mx_dd dd_X11_init_0 11 (22, .new 16, 3) rfl) ?_
  have P := P _ _ rfl rfl
  refine mx_dup (pc := 25) (mx_dd dd_X11_init_0 12 (25, .dup, 1) rfl) rfl ?_
  refine mx_cI (pc := 26) (Y := mY_X3_init) (As := []) mx_ml_X11_18 mx_y_X3_init rfl rfl (by simp [Value.category]) rfl (mx_dd dd_X11_init_0 13 (26, .invokespecial 18, 3) rfl) g1 (by decide) P (fun h6 P => ?_)
  obtain ⟨g4, P⟩ := P
  refine mx_putR (pc := 29) mx_fl_X11_19 g4 rfl (.inr ⟨rfl, rfl, rfl⟩) (mx_dd dd_X11_init_0 14 (29, .putfield 19, 3) rfl) ?_
  have P := P _ rfl
  refine mx_new (pc := 32) mx_nw_X11_23 (mx_nofd _) (mx_dd dd_X11_init_0 15 (32, .new 23, 3) rfl) ?_
  have P := P _ _ rfl rfl
  refine mx_dup (pc := 35) (mx_dd dd_X11_init_0 16 (35, .dup, 1) rfl) rfl ?_
  refine mx_cI (pc := 36) (Y := mY_X0_init) (As := []) mx_ml_X11_25 mx_y_X0_init rfl rfl (by simp [Value.category]) rfl (mx_dd dd_X11_init_0 17 (36, .invokespecial 25, 3) rfl) g1 (by decide) P (fun h9 P => ?_)
  refine mx_astore_n (pc := 39) (mx_dd dd_X11_init_0 18 (39, .astore_n 1, 1) rfl) rfl (by decide) (lv' := [(1, _), (0, _)]) rfl ?_
  refine mx_aload_n (pc := 40) 1 (mx_dd dd_X11_init_0 19 (40, .aload_n 0, 1) rfl) rfl rfl ?_
  refine mx_new (pc := 41) mx_nw_X11_26 (mx_nofd _) (mx_dd dd_X11_init_0 20 (41, .new 26, 3) rfl) ?_
  have P := P _ _ rfl rfl
  refine mx_dup (pc := 44) (mx_dd dd_X11_init_0 21 (44, .dup, 1) rfl) rfl ?_
  refine mx_aload_n (pc := 45) 0 (mx_dd dd_X11_init_0 22 (45, .aload_n 1, 1) rfl) rfl rfl ?_
  refine mx_cI (pc := 46) (Y := mY_X10_init) (As := [.ref _]) mx_ml_X11_28 mx_y_X10_init rfl rfl (by simp [Value.category]) rfl (mx_dd dd_X11_init_0 23 (46, .invokespecial 28, 3) rfl) g1 (by decide) P (fun h11 P => ?_)
  obtain ⟨g5, P⟩ := P
  refine mx_putR (pc := 49) mx_fl_X11_31 g5 rfl (.inr ⟨rfl, rfl, rfl⟩) (mx_dd dd_X11_init_0 24 (49, .putfield 31, 3) rfl) ?_
  have P := P _ rfl
  refine mx_aload_n (pc := 52) 1 (mx_dd dd_X11_init_0 25 (52, .aload_n 0, 1) rfl) rfl rfl ?_
  refine mx_bipush (pc := 53) (v := (6 : Int32)) (mx_dd dd_X11_init_0 26 (53, .bipush 6, 2) rfl) (by decide) ?_
  refine mx_newq (pc := 55) (N := 6) (kd := 20) (by decide) rfl mx_an_X11_26 (by decide) (by decide) (by decide) (mx_dd dd_X11_init_0 27 (55, .anewarray 26, 3) rfl) ?_
  have P := P _ _ rfl rfl
  obtain ⟨g6, P⟩ := P
  refine mx_putR (pc := 58) mx_fl_X11_35 g6 rfl (.inr ⟨rfl, rfl, rfl⟩) (mx_dd dd_X11_init_0 28 (58, .putfield 35, 3) rfl) ?_
  have P := P _ rfl
  refine mx_iconst (pc := 61) (v := (0 : Int32)) (mx_dd dd_X11_init_0 29 (61, .iconst 0, 1) rfl) (by decide) ?_
  refine mx_istore_n (pc := 62) (mx_dd dd_X11_init_0 30 (62, .istore_n 2, 1) rfl) rfl (by decide) (lv' := [(2, _), (1, _), (0, _)]) rfl ?_
  refine mx_sel [2, 1, 0] rfl ?_
  exact P
theorem b_X11_init_63 {d : Nat} {h : mxH} {Q : mxRes → mxH → Prop} (x0 : Nat) (x1 : Nat) (x2 : Int32)
    (P : (((6 : Int32) ≤ x2 → ∀ (b1 : Nat) (h1 : mxH), b1 = hpN h → h1 = hnw h 6 0 9 → hpK h1 x0 = 11 ∧ ∃ b2 : Nat, hpR h1 x0 0 = some b2 ∧ 1 ≤ d ∧ mx_SM mY_X6_init (d - 1) [.ref b1, .ref b2] h1 (mx_KV (fun h2 => hpK h2 x0 = 11 ∧ ∀ h3 : mxH, h3 = hsR h2 x0 8 (some b1) → ∀ (b3 : Nat) (h4 : mxH), b3 = hpN h3 → h4 = hnw h3 4 0 13 → hpK h4 x0 = 11 ∧ ∃ b4 : Nat, hpR h4 x0 5 = some b4 ∧ ∃ b5 : Nat, hpR h4 x0 4 = some b5 ∧ mx_SM mY_X4_init (d - 1) [.ref b3, .ref b4, .ref x1, .ref b5] h4 (mx_KV (fun h5 => hpK h5 x0 = 11 ∧ ∀ h6 : mxH, h6 = hsR h5 x0 9 (some b3) → ∀ (b6 : Nat) (h7 : mxH), b6 = hpN h6 → h7 = hnw h6 7 0 18 → mx_SM mY_X7_init (d - 1) [.ref b6] h7 (mx_KV (fun h8 => hpK h8 x0 = 11 ∧ ∀ h9 : mxH, h9 = hsR h8 x0 10 (some b6) → ∀ (b7 : Nat) (h10 : mxH), b7 = hpN h9 → h10 = hnw h9 7 0 18 → mx_SM mY_X7_init (d - 1) [.ref b7] h10 (mx_KV (fun h11 => hpK h11 x0 = 11 ∧ ∀ h12 : mxH, h12 = hsR h11 x0 11 (some b7) → ∃ b8 : Nat, hpR h12 x0 10 = some b8 ∧ hpK h12 b8 = 7 ∧ mx_SM mY_X7_emit (d - 1) [.ref b8, .int (21 : Int32)] h12 (mx_KI (fun v1 h13 => hpK h13 x0 = 11 ∧ ∃ b9 : Nat, hpR h13 x0 5 = some b9 ∧ hpK h13 b9 = 10 ∧ mx_SM mY_X10_beginAnew (d - 1) [.ref b9] h13 (mx_KV (fun h14 => Q (.inl none) h14) (mx_XX mY_X11_init Q))) (mx_XX mY_X11_init Q))) fun _ _ => False)) fun _ _ => False)) fun _ _ => False)) fun _ _ => False)) ∧ (¬ (6 : Int32) ≤ x2 → hpK h x0 = 11 ∧ ∃ b10 : Nat, hpR h x0 6 = some b10 ∧ ∀ (b11 : Nat) (h15 : mxH), b11 = hpN h → h15 = hnw h 10 0 14 → 1 ≤ d ∧ mx_SM mY_X10_init (d - 1) [.ref b11, .ref x1] h15 (mx_KV (fun h16 => hpK h16 b10 = 20 ∧ vp_in x2 (hpZ h16 b10) ∧ hpK h16 b11 = 10 ∧ ∀ h17 : mxH, h17 = hsR h16 b10 x2.toNatClampNeg (some b11) → mx_SX mY_X11_init d 63 [(0, .ref x0), (1, .ref x1), (2, .int (x2 + (1 : Int32)))] [] h17 Q) fun _ _ => False)))) : mx_SX mY_X11_init d 63 [(0, .ref x0), (1, .ref x1), (2, .int x2)] [] h Q := by
  refine mx_iload_n (pc := 63) 2 (mx_dd dd_X11_init_0 31 (63, .iload_n 2, 1) rfl) rfl rfl ?_
  refine mx_bipush (pc := 64) (v := (6 : Int32)) (mx_dd dd_X11_init_0 32 (64, .bipush 6, 2) rfl) (by decide) ?_
  refine mx_icmp_ge (pc := 66) 89 (mx_dd dd_X11_init_0 33 (66, .if_icmp .ge 23, 3) rfl) rfl (fun c66 => ?_) (fun c66 => ?_)
  · have P := P.1 c66
    refine mx_aload_n (pc := 89) 0 (mx_dd dd_X11_init_1 4 (89, .aload_n 0, 1) rfl) rfl rfl ?_
    refine mx_new (pc := 90) mx_nw_X11_39 (mx_nofd _) (mx_dd dd_X11_init_1 5 (90, .new 39, 3) rfl) ?_
    have P := P _ _ rfl rfl
    refine mx_dup (pc := 93) (mx_dd dd_X11_init_1 6 (93, .dup, 1) rfl) rfl ?_
    refine mx_aload_n (pc := 94) 0 (mx_dd dd_X11_init_1 7 (94, .aload_n 0, 1) rfl) rfl rfl ?_
    obtain ⟨g1, P⟩ := P
    obtain ⟨b2, g2, P⟩ := P
    refine mx_getR (pc := 95) mx_fl_X11_9 g1 rfl g2 (mx_dd dd_X11_init_1 8 (95, .getfield 9, 3) rfl) ?_
    obtain ⟨g3, P⟩ := P
    refine mx_cI (pc := 98) (Y := mY_X6_init) (As := [.ref _]) mx_ml_X11_41 mx_y_X6_init rfl rfl (by simp [Value.category]) rfl (mx_dd dd_X11_init_1 9 (98, .invokespecial 41, 3) rfl) g3 (by decide) P (fun h2 P => ?_)
    obtain ⟨g4, P⟩ := P
    refine mx_putR (pc := 101) mx_fl_X11_44 g4 rfl (.inr ⟨rfl, rfl, rfl⟩) (mx_dd dd_X11_init_1 10 (101, .putfield 44, 3) rfl) ?_
    have P := P _ rfl
    refine mx_aload_n (pc := 104) 0 (mx_dd dd_X11_init_1 11 (104, .aload_n 0, 1) rfl) rfl rfl ?_
    refine mx_new (pc := 105) mx_nw_X11_48 (mx_nofd _) (mx_dd dd_X11_init_1 12 (105, .new 48, 3) rfl) ?_
    have P := P _ _ rfl rfl
    refine mx_dup (pc := 108) (mx_dd dd_X11_init_1 13 (108, .dup, 1) rfl) rfl ?_
    refine mx_aload_n (pc := 109) 0 (mx_dd dd_X11_init_1 14 (109, .aload_n 0, 1) rfl) rfl rfl ?_
    obtain ⟨g5, P⟩ := P
    obtain ⟨b4, g6, P⟩ := P
    refine mx_getR (pc := 110) mx_fl_X11_31 g5 rfl g6 (mx_dd dd_X11_init_1 15 (110, .getfield 31, 3) rfl) ?_
    refine mx_aload_n (pc := 113) 1 (mx_dd dd_X11_init_1 16 (113, .aload_n 1, 1) rfl) rfl rfl ?_
    refine mx_aload_n (pc := 114) 0 (mx_dd dd_X11_init_1 17 (114, .aload_n 0, 1) rfl) rfl rfl ?_
    obtain ⟨b5, g7, P⟩ := P
    refine mx_getR (pc := 115) mx_fl_X11_19 g5 rfl g7 (mx_dd dd_X11_init_1 18 (115, .getfield 19, 3) rfl) ?_
    refine mx_cI (pc := 118) (Y := mY_X4_init) (As := [.ref _, .ref _, .ref _]) mx_ml_X11_50 mx_y_X4_init rfl rfl (by simp [Value.category]) rfl (mx_dd dd_X11_init_1 19 (118, .invokespecial 50, 3) rfl) g3 (by decide) P (fun h5 P => ?_)
    obtain ⟨g8, P⟩ := P
    refine mx_putR (pc := 121) mx_fl_X11_53 g8 rfl (.inr ⟨rfl, rfl, rfl⟩) (mx_dd dd_X11_init_1 20 (121, .putfield 53, 3) rfl) ?_
    have P := P _ rfl
    refine mx_aload_n (pc := 124) 0 (mx_dd dd_X11_init_1 21 (124, .aload_n 0, 1) rfl) rfl rfl ?_
    refine mx_new (pc := 125) mx_nw_X11_57 (mx_nofd _) (mx_dd dd_X11_init_1 22 (125, .new 57, 3) rfl) ?_
    have P := P _ _ rfl rfl
    refine mx_dup (pc := 128) (mx_dd dd_X11_init_1 23 (128, .dup, 1) rfl) rfl ?_
    refine mx_cI (pc := 129) (Y := mY_X7_init) (As := []) mx_ml_X11_59 mx_y_X7_init rfl rfl (by simp [Value.category]) rfl (mx_dd dd_X11_init_1 24 (129, .invokespecial 59, 3) rfl) g3 (by decide) P (fun h8 P => ?_)
    obtain ⟨g9, P⟩ := P
    refine mx_putR (pc := 132) mx_fl_X11_60 g9 rfl (.inl rfl) (mx_dd dd_X11_init_1 25 (132, .putfield 60, 3) rfl) ?_
    have P := P _ rfl
    refine mx_aload_n (pc := 135) 0 (mx_dd dd_X11_init_1 26 (135, .aload_n 0, 1) rfl) rfl rfl ?_
    refine mx_new (pc := 136) mx_nw_X11_57 (mx_nofd _) (mx_dd dd_X11_init_1 27 (136, .new 57, 3) rfl) ?_
    have P := P _ _ rfl rfl
    refine mx_dup (pc := 139) (mx_dd dd_X11_init_1 28 (139, .dup, 1) rfl) rfl ?_
    refine mx_cI (pc := 140) (Y := mY_X7_init) (As := []) mx_ml_X11_59 mx_y_X7_init rfl rfl (by simp [Value.category]) rfl (mx_dd dd_X11_init_1 29 (140, .invokespecial 59, 3) rfl) g3 (by decide) P (fun h11 P => ?_)
    obtain ⟨g10, P⟩ := P
    refine mx_putR (pc := 143) mx_fl_X11_64 g10 rfl (.inl rfl) (mx_dd dd_X11_init_1 30 (143, .putfield 64, 3) rfl) ?_
    have P := P _ rfl
    refine mx_aload_n (pc := 146) 0 (mx_dd dd_X11_init_1 31 (146, .aload_n 0, 1) rfl) rfl rfl ?_
    obtain ⟨b8, g11, P⟩ := P
    refine mx_getR (pc := 147) mx_fl_X11_60 g10 rfl g11 (mx_dd dd_X11_init_1 32 (147, .getfield 60, 3) rfl) ?_
    refine mx_bipush (pc := 150) (v := (21 : Int32)) (mx_dd dd_X11_init_1 33 (150, .bipush 21, 2) rfl) (by decide) ?_
    obtain ⟨g12, P⟩ := P
    refine mx_cVI (pc := 152) (Y := mY_X7_emit) (As := [.int _]) mx_ml_X11_67 mx_y_X7_emit rfl g12 (by decide) rfl (by decide) rfl (mx_dd dd_X11_init_1 34 (152, .invokevirtual 67, 3) rfl) g3 (by decide) P (fun v1 h13 P => ?_)
    refine mx_pop (pc := 155) (mx_dd dd_X11_init_1 35 (155, .pop, 1) rfl) rfl ?_
    refine mx_aload_n (pc := 156) 0 (mx_dd dd_X11_init_1 36 (156, .aload_n 0, 1) rfl) rfl rfl ?_
    obtain ⟨g13, P⟩ := P
    obtain ⟨b9, g14, P⟩ := P
    refine mx_getR (pc := 157) mx_fl_X11_31 g13 rfl g14 (mx_dd dd_X11_init_1 37 (157, .getfield 31, 3) rfl) ?_
    obtain ⟨g15, P⟩ := P
    refine mx_cVV (pc := 160) (Y := mY_X10_beginAnew) (As := []) mx_ml_X11_71 mx_y_X10_beginAnew rfl g15 (by decide) rfl (by decide) rfl (mx_dd dd_X11_init_1 38 (160, .invokevirtual 71, 3) rfl) g3 (by decide) P (fun h14 P => ?_)
    exact mx_return (pc := 163) (mx_dd dd_X11_init_1 39 (163, .return_, 1) rfl) rfl P
  · have P := P.2 c66
    refine mx_aload_n (pc := 69) 0 (mx_dd dd_X11_init_0 34 (69, .aload_n 0, 1) rfl) rfl rfl ?_
    obtain ⟨g16, P⟩ := P
    obtain ⟨b10, g17, P⟩ := P
    refine mx_getR (pc := 70) mx_fl_X11_35 g16 rfl g17 (mx_dd dd_X11_init_0 35 (70, .getfield 35, 3) rfl) ?_
    refine mx_iload_n (pc := 73) 2 (mx_dd dd_X11_init_0 36 (73, .iload_n 2, 1) rfl) rfl rfl ?_
    refine mx_new (pc := 74) mx_nw_X11_26 (mx_nofd _) (mx_dd dd_X11_init_0 37 (74, .new 26, 3) rfl) ?_
    have P := P _ _ rfl rfl
    refine mx_dup (pc := 77) (mx_dd dd_X11_init_0 38 (77, .dup, 1) rfl) rfl ?_
    refine mx_aload_n (pc := 78) 1 (mx_dd dd_X11_init_0 39 (78, .aload_n 1, 1) rfl) rfl rfl ?_
    obtain ⟨g18, P⟩ := P
    refine mx_cI (pc := 79) (Y := mY_X10_init) (As := [.ref _]) mx_ml_X11_28 mx_y_X10_init rfl rfl (by simp [Value.category]) rfl (mx_dd dd_X11_init_1 0 (79, .invokespecial 28, 3) rfl) g18 (by decide) P (fun h16 P => ?_)
    obtain ⟨g19, P⟩ := P
    obtain ⟨g20, P⟩ := P
    obtain ⟨g21, P⟩ := P
    refine mx_aast (pc := 82) g19 (by decide) g21 (by decide) rfl g20 (mx_dd dd_X11_init_1 1 (82, .aastore, 1) rfl) ?_
    have P := P _ rfl
    refine mx_iinc (pc := 83) 2 (mx_dd dd_X11_init_1 2 (83, .iinc 2 1, 3) rfl) rfl (mx_kadd (by decide : Int32.ofInt 1 = (1 : Int32))) (by decide) (lv' := [(2, _), (0, _), (1, _)]) rfl ?_
    refine mx_goto (pc := 86) 63 (mx_dd dd_X11_init_1 3 (86, .goto (-23), 3) rfl) rfl ?_
    refine mx_sel [1, 2, 0] rfl ?_
    exact P
theorem b_X11_append {d : Nat} {h : mxH} {Q : mxRes → mxH → Prop} (x0 : Nat) (x1 : Int32) (x2 : Int32) (x3 : Int32) (x4 : Int32) (x5 : Int32)
    (P : hpK h x0 = 11 ∧ (((hpI h x0 1) < 0 → Q (.inl (some (.int (-1 : Int32)))) h) ∧ (¬ (hpI h x0 1) < 0 → (((hpI h x0 1) ≤ (680 : Int32) → 1 ≤ d ∧ mx_SM mY_X11_addWord (d - 1) [.ref x0, .int x1] h (mx_KV (fun h1 => hpK h1 x0 = 11 ∧ mx_SM mY_X11_addWord (d - 1) [.ref x0, .int x2] h1 (mx_KV (fun h2 => hpK h2 x0 = 11 ∧ mx_SM mY_X11_addWord (d - 1) [.ref x0, .int x3] h2 (mx_KV (fun h3 => hpK h3 x0 = 11 ∧ mx_SM mY_X11_addWord (d - 1) [.ref x0, .int x4] h3 (mx_KV (fun h4 => hpK h4 x0 = 11 ∧ mx_SM mY_X11_addWord (d - 1) [.ref x0, .int x5] h4 (mx_KV (fun h5 => hpK h5 x0 = 11 ∧ Q (.inl (some (.int (hpI h5 x0 1)))) h5) (mx_XX mY_X11_append Q))) (mx_XX mY_X11_append Q))) (mx_XX mY_X11_append Q))) (mx_XX mY_X11_append Q))) (mx_XX mY_X11_append Q))) ∧ (¬ (hpI h x0 1) ≤ (680 : Int32) → Q (.inl (some (.int (-1 : Int32)))) h))))) : mx_SM mY_X11_append d [.ref x0, .int x1, .int x2, .int x3, .int x4, .int x5] h Q := by
  refine mx_SM_of (by decide) (Nat.le_of_ble_eq_true rfl) ?_
  show mx_SX mY_X11_append d 0 [(0, .ref x0), (1, .int x1), (2, .int x2), (3, .int x3), (4, .int x4), (5, .int x5)] [] h Q
  refine mx_aload_n (pc := 0) 0 (mx_dd dd_X11_append 0 (0, .aload_n 0, 1) rfl) rfl rfl ?_
  obtain ⟨g1, P⟩ := P
  refine mx_getI (pc := 1) mx_fl_X11_74 g1 rfl (mx_dd dd_X11_append 1 (1, .getfield 74, 3) rfl) ?_
  refine mx_if_lt (pc := 4) 17 (mx_dd dd_X11_append 2 (4, .ifCond .lt 13, 3) rfl) rfl (fun c4 => ?_) (fun c4 => ?_)
  · have P := P.1 c4
    refine mx_iconst (pc := 17) (v := (-1 : Int32)) (mx_dd dd_X11_append 7 (17, .iconst (-1), 1) rfl) (by decide) ?_
    exact mx_ireturn (pc := 18) (mx_dd dd_X11_append 8 (18, .ireturn, 1) rfl) rfl rfl P
  · have P := P.2 c4
    refine mx_aload_n (pc := 7) 0 (mx_dd dd_X11_append 3 (7, .aload_n 0, 1) rfl) rfl rfl ?_
    refine mx_getI (pc := 8) mx_fl_X11_74 g1 rfl (mx_dd dd_X11_append 4 (8, .getfield 74, 3) rfl) ?_
    refine mx_sipush (pc := 11) (v := (680 : Int32)) (mx_dd dd_X11_append 5 (11, .sipush 680, 3) rfl) (by decide) ?_
    refine mx_icmp_le (pc := 14) 19 (mx_dd dd_X11_append 6 (14, .if_icmp .le 5, 3) rfl) rfl (fun c14 => ?_) (fun c14 => ?_)
    · have P := P.1 c14
      refine mx_aload_n (pc := 19) 0 (mx_dd dd_X11_append 9 (19, .aload_n 0, 1) rfl) rfl rfl ?_
      refine mx_iload_n (pc := 20) 1 (mx_dd dd_X11_append 10 (20, .iload_n 1, 1) rfl) rfl rfl ?_
      obtain ⟨g2, P⟩ := P
      refine mx_cVV (pc := 21) (Y := mY_X11_addWord) (As := [.int _]) mx_ml_X11_78 mx_y_X11_addWord rfl g1 (by decide) rfl (by decide) rfl (mx_dd dd_X11_append 11 (21, .invokevirtual 78, 3) rfl) g2 (by decide) P (fun h1 P => ?_)
      refine mx_aload_n (pc := 24) 0 (mx_dd dd_X11_append 12 (24, .aload_n 0, 1) rfl) rfl rfl ?_
      refine mx_iload_n (pc := 25) 2 (mx_dd dd_X11_append 13 (25, .iload_n 2, 1) rfl) rfl rfl ?_
      obtain ⟨g3, P⟩ := P
      refine mx_cVV (pc := 26) (Y := mY_X11_addWord) (As := [.int _]) mx_ml_X11_78 mx_y_X11_addWord rfl g3 (by decide) rfl (by decide) rfl (mx_dd dd_X11_append 14 (26, .invokevirtual 78, 3) rfl) g2 (by decide) P (fun h2 P => ?_)
      refine mx_aload_n (pc := 29) 0 (mx_dd dd_X11_append 15 (29, .aload_n 0, 1) rfl) rfl rfl ?_
      refine mx_iload_n (pc := 30) 3 (mx_dd dd_X11_append 16 (30, .iload_n 3, 1) rfl) rfl rfl ?_
      obtain ⟨g4, P⟩ := P
      refine mx_cVV (pc := 31) (Y := mY_X11_addWord) (As := [.int _]) mx_ml_X11_78 mx_y_X11_addWord rfl g4 (by decide) rfl (by decide) rfl (mx_dd dd_X11_append 17 (31, .invokevirtual 78, 3) rfl) g2 (by decide) P (fun h3 P => ?_)
      refine mx_aload_n (pc := 34) 0 (mx_dd dd_X11_append 18 (34, .aload_n 0, 1) rfl) rfl rfl ?_
      refine mx_iload (pc := 35) 4 (mx_dd dd_X11_append 19 (35, .iload 4, 2) rfl) rfl ?_
      obtain ⟨g5, P⟩ := P
      refine mx_cVV (pc := 37) (Y := mY_X11_addWord) (As := [.int _]) mx_ml_X11_78 mx_y_X11_addWord rfl g5 (by decide) rfl (by decide) rfl (mx_dd dd_X11_append 20 (37, .invokevirtual 78, 3) rfl) g2 (by decide) P (fun h4 P => ?_)
      refine mx_aload_n (pc := 40) 0 (mx_dd dd_X11_append 21 (40, .aload_n 0, 1) rfl) rfl rfl ?_
      refine mx_iload (pc := 41) 5 (mx_dd dd_X11_append 22 (41, .iload 5, 2) rfl) rfl ?_
      obtain ⟨g6, P⟩ := P
      refine mx_cVV (pc := 43) (Y := mY_X11_addWord) (As := [.int _]) mx_ml_X11_78 mx_y_X11_addWord rfl g6 (by decide) rfl (by decide) rfl (mx_dd dd_X11_append 23 (43, .invokevirtual 78, 3) rfl) g2 (by decide) P (fun h5 P => ?_)
      refine mx_aload_n (pc := 46) 0 (mx_dd dd_X11_append 24 (46, .aload_n 0, 1) rfl) rfl rfl ?_
      obtain ⟨g7, P⟩ := P
      refine mx_getI (pc := 47) mx_fl_X11_74 g7 rfl (mx_dd dd_X11_append 25 (47, .getfield 74, 3) rfl) ?_
      exact mx_ireturn (pc := 50) (mx_dd dd_X11_append 26 (50, .ireturn, 1) rfl) rfl rfl P
    · have P := P.2 c14
      refine mx_iconst (pc := 17) (v := (-1 : Int32)) (mx_dd dd_X11_append 7 (17, .iconst (-1), 1) rfl) (by decide) ?_
      exact mx_ireturn (pc := 18) (mx_dd dd_X11_append 8 (18, .ireturn, 1) rfl) rfl rfl P
theorem b_X11_addWord {d : Nat} {h : mxH} {Q : mxRes → mxH → Prop} (x0 : Nat) (x1 : Int32)
    (P : mx_SX mY_X11_addWord d 3 [(0, .ref x0), (1, .int x1), (2, .int (24 : Int32))] [] h Q) : mx_SM mY_X11_addWord d [.ref x0, .int x1] h Q := by
  refine mx_SM_of (by decide) (Nat.le_of_ble_eq_true rfl) ?_
  show mx_SX mY_X11_addWord d 0 [(0, .ref x0), (1, .int x1)] [] h Q
  refine mx_bipush (pc := 0) (v := (24 : Int32)) (mx_dd dd_X11_addWord 0 (0, .bipush 24, 2) rfl) (by decide) ?_
  refine mx_istore_n (pc := 2) (mx_dd dd_X11_addWord 1 (2, .istore_n 2, 1) rfl) rfl (by decide) (lv' := [(2, _), (0, _), (1, _)]) rfl ?_
  refine mx_sel [1, 2, 0] rfl ?_
  exact P
theorem b_X11_addWord_3 {d : Nat} {h : mxH} {Q : mxRes → mxH → Prop} (x0 : Nat) (x1 : Int32) (x2 : Int32)
    (P : ((x2 < 0 → Q (.inl none) h) ∧ (¬ x2 < 0 → hpK h x0 = 11 ∧ (((hpI h x0 1) < 0 → mx_SX mY_X11_addWord d 47 [(0, .ref x0), (1, .int x1), (2, .int x2)] [] h Q) ∧ (¬ (hpI h x0 1) < 0 → (((700 : Int32) ≤ (hpI h x0 1) → mx_SX mY_X11_addWord d 47 [(0, .ref x0), (1, .int x1), (2, .int x2)] [] h Q) ∧ (¬ (700 : Int32) ≤ (hpI h x0 1) → ∃ b1 : Nat, hpR h x0 0 = some b1 ∧ hpK h b1 = 13 ∧ vp_in (hpI h x0 1) (hpZ h b1) ∧ ∀ h1 : mxH, h1 = hsI h b1 (hpI h x0 1).toNatClampNeg ((x1 >>> (x2 &&& 31)).toInt8.toInt32).toInt8.toInt32 → ∀ h2 : mxH, h2 = hsI h1 x0 1 ((hpI h1 x0 1) + (1 : Int32)) → mx_SX mY_X11_addWord d 47 [(0, .ref x0), (1, .int x1), (2, .int x2)] [] h2 Q))))))) : mx_SX mY_X11_addWord d 3 [(0, .ref x0), (1, .int x1), (2, .int x2)] [] h Q := by
  refine mx_iload_n (pc := 3) 2 (mx_dd dd_X11_addWord 2 (3, .iload_n 2, 1) rfl) rfl rfl ?_
  refine mx_if_lt (pc := 4) 53 (mx_dd dd_X11_addWord 3 (4, .ifCond .lt 49, 3) rfl) rfl (fun c4 => ?_) (fun c4 => ?_)
  · have P := P.1 c4
    exact mx_return (pc := 53) (mx_dd dd_X11_addWord 28 (53, .return_, 1) rfl) rfl P
  · have P := P.2 c4
    refine mx_aload_n (pc := 7) 0 (mx_dd dd_X11_addWord 4 (7, .aload_n 0, 1) rfl) rfl rfl ?_
    obtain ⟨g1, P⟩ := P
    refine mx_getI (pc := 8) mx_fl_X11_74 g1 rfl (mx_dd dd_X11_addWord 5 (8, .getfield 74, 3) rfl) ?_
    refine mx_if_lt (pc := 11) 47 (mx_dd dd_X11_addWord 6 (11, .ifCond .lt 36, 3) rfl) rfl (fun c11 => ?_) (fun c11 => ?_)
    · have P := P.1 c11
      exact P
    · have P := P.2 c11
      refine mx_aload_n (pc := 14) 0 (mx_dd dd_X11_addWord 7 (14, .aload_n 0, 1) rfl) rfl rfl ?_
      refine mx_getI (pc := 15) mx_fl_X11_74 g1 rfl (mx_dd dd_X11_addWord 8 (15, .getfield 74, 3) rfl) ?_
      refine mx_sipush (pc := 18) (v := (700 : Int32)) (mx_dd dd_X11_addWord 9 (18, .sipush 700, 3) rfl) (by decide) ?_
      refine mx_icmp_ge (pc := 21) 47 (mx_dd dd_X11_addWord 10 (21, .if_icmp .ge 26, 3) rfl) rfl (fun c21 => ?_) (fun c21 => ?_)
      · have P := P.1 c21
        exact P
      · have P := P.2 c21
        refine mx_aload_n (pc := 24) 0 (mx_dd dd_X11_addWord 11 (24, .aload_n 0, 1) rfl) rfl rfl ?_
        obtain ⟨b1, g2, P⟩ := P
        refine mx_getR (pc := 25) mx_fl_X11_9 g1 rfl g2 (mx_dd dd_X11_addWord 12 (25, .getfield 9, 3) rfl) ?_
        refine mx_aload_n (pc := 28) 0 (mx_dd dd_X11_addWord 13 (28, .aload_n 0, 1) rfl) rfl rfl ?_
        refine mx_getI (pc := 29) mx_fl_X11_74 g1 rfl (mx_dd dd_X11_addWord 14 (29, .getfield 74, 3) rfl) ?_
        refine mx_iload_n (pc := 32) 1 (mx_dd dd_X11_addWord 15 (32, .iload_n 1, 1) rfl) rfl rfl ?_
        refine mx_iload_n (pc := 33) 2 (mx_dd dd_X11_addWord 16 (33, .iload_n 2, 1) rfl) rfl rfl ?_
        refine mx_ishr (pc := 34) (mx_dd dd_X11_addWord 17 (34, .ishr, 1) rfl) ?_
        refine mx_i2b (pc := 35) (mx_dd dd_X11_addWord 18 (35, .i2b, 1) rfl) ?_
        obtain ⟨g3, P⟩ := P
        obtain ⟨g4, P⟩ := P
        refine mx_bast (pc := 36) g3 g4 (mx_dd dd_X11_addWord 19 (36, .bastore, 1) rfl) ?_
        have P := P _ rfl
        refine mx_aload_n (pc := 37) 0 (mx_dd dd_X11_addWord 20 (37, .aload_n 0, 1) rfl) rfl rfl ?_
        refine mx_dup (pc := 38) (mx_dd dd_X11_addWord 21 (38, .dup, 1) rfl) rfl ?_
        refine mx_getI (pc := 39) mx_fl_X11_74 g1 rfl (mx_dd dd_X11_addWord 22 (39, .getfield 74, 3) rfl) ?_
        refine mx_iconst (pc := 42) (v := (1 : Int32)) (mx_dd dd_X11_addWord 23 (42, .iconst 1, 1) rfl) (by decide) ?_
        refine mx_iadd (pc := 43) (mx_dd dd_X11_addWord 24 (43, .iadd, 1) rfl) ?_
        refine mx_putI (pc := 44) mx_fl_X11_74 g1 rfl (.inl rfl) rfl rfl (mx_dd dd_X11_addWord 25 (44, .putfield 74, 3) rfl) ?_
        have P := P _ rfl
        exact P
theorem b_X11_addWord_47 {d : Nat} {h : mxH} {Q : mxRes → mxH → Prop} (x0 : Nat) (x1 : Int32) (x2 : Int32)
    (P : mx_SX mY_X11_addWord d 3 [(0, .ref x0), (1, .int x1), (2, .int (x2 + (-8 : Int32)))] [] h Q) : mx_SX mY_X11_addWord d 47 [(0, .ref x0), (1, .int x1), (2, .int x2)] [] h Q := by
  refine mx_iinc (pc := 47) 2 (mx_dd dd_X11_addWord 26 (47, .iinc 2 (-8), 3) rfl) rfl (mx_kadd (by decide : Int32.ofInt (-8) = (-8 : Int32))) (by decide) (lv' := [(2, _), (0, _), (1, _)]) rfl ?_
  refine mx_goto (pc := 50) 3 (mx_dd dd_X11_addWord 27 (50, .goto (-47), 3) rfl) rfl ?_
  refine mx_sel [1, 2, 0] rfl ?_
  exact P
theorem b_X11_truncate {d : Nat} {h : mxH} {Q : mxRes → mxH → Prop} (x0 : Nat) (x1 : Int32)
    (P : ((x1 < 0 → Q (.inl (some (.int (0 : Int32)))) h) ∧ (¬ x1 < 0 → hpK h x0 = 11 ∧ ((x1 ≤ (hpI h x0 1) → ∀ h1 : mxH, h1 = hsI h x0 1 x1 → Q (.inl (some (.int (1 : Int32)))) h1) ∧ (¬ x1 ≤ (hpI h x0 1) → Q (.inl (some (.int (0 : Int32)))) h))))) : mx_SM mY_X11_truncate d [.ref x0, .int x1] h Q := by
  refine mx_SM_of (by decide) (Nat.le_of_ble_eq_true rfl) ?_
  show mx_SX mY_X11_truncate d 0 [(0, .ref x0), (1, .int x1)] [] h Q
  refine mx_iload_n (pc := 0) 1 (mx_dd dd_X11_truncate 0 (0, .iload_n 1, 1) rfl) rfl rfl ?_
  refine mx_if_lt (pc := 1) 12 (mx_dd dd_X11_truncate 1 (1, .ifCond .lt 11, 3) rfl) rfl (fun c1 => ?_) (fun c1 => ?_)
  · have P := P.1 c1
    refine mx_iconst (pc := 12) (v := (0 : Int32)) (mx_dd dd_X11_truncate 6 (12, .iconst 0, 1) rfl) (by decide) ?_
    exact mx_ireturn (pc := 13) (mx_dd dd_X11_truncate 7 (13, .ireturn, 1) rfl) rfl rfl P
  · have P := P.2 c1
    refine mx_iload_n (pc := 4) 1 (mx_dd dd_X11_truncate 2 (4, .iload_n 1, 1) rfl) rfl rfl ?_
    refine mx_aload_n (pc := 5) 0 (mx_dd dd_X11_truncate 3 (5, .aload_n 0, 1) rfl) rfl rfl ?_
    obtain ⟨g1, P⟩ := P
    refine mx_getI (pc := 6) mx_fl_X11_74 g1 rfl (mx_dd dd_X11_truncate 4 (6, .getfield 74, 3) rfl) ?_
    refine mx_icmp_le (pc := 9) 14 (mx_dd dd_X11_truncate 5 (9, .if_icmp .le 5, 3) rfl) rfl (fun c9 => ?_) (fun c9 => ?_)
    · have P := P.1 c9
      refine mx_aload_n (pc := 14) 0 (mx_dd dd_X11_truncate 8 (14, .aload_n 0, 1) rfl) rfl rfl ?_
      refine mx_iload_n (pc := 15) 1 (mx_dd dd_X11_truncate 9 (15, .iload_n 1, 1) rfl) rfl rfl ?_
      refine mx_putI (pc := 16) mx_fl_X11_74 g1 rfl (.inl rfl) rfl rfl (mx_dd dd_X11_truncate 10 (16, .putfield 74, 3) rfl) ?_
      have P := P _ rfl
      refine mx_iconst (pc := 19) (v := (1 : Int32)) (mx_dd dd_X11_truncate 11 (19, .iconst 1, 1) rfl) (by decide) ?_
      exact mx_ireturn (pc := 20) (mx_dd dd_X11_truncate 12 (20, .ireturn, 1) rfl) rfl rfl P
    · have P := P.2 c9
      refine mx_iconst (pc := 12) (v := (0 : Int32)) (mx_dd dd_X11_truncate 6 (12, .iconst 0, 1) rfl) (by decide) ?_
      exact mx_ireturn (pc := 13) (mx_dd dd_X11_truncate 7 (13, .ireturn, 1) rfl) rfl rfl P
theorem b_X11_load {d : Nat} {h : mxH} {Q : mxRes → mxH → Prop} (x0 : Nat)
    (P : hpK h x0 = 11 ∧ ∀ h1 : mxH, h1 = hsI h x0 1 (0 : Int32) → ∃ b1 : Nat, hpR h1 x0 8 = some b1 ∧ ∃ b2 : Nat, hpR h1 x0 11 = some b2 ∧ 1 ≤ d ∧ hpK h1 b1 = 6 ∧ mx_SM mY_X6_parse (d - 1) [.ref b1, .int (hpI h x0 1), .ref b2] h1 (mx_KI (fun v1 h2 => hpK h2 x0 = 11 ∧ ∃ b3 : Nat, hpR h2 x0 10 = some b3 ∧ ∃ b4 : Nat, hpR h2 x0 11 = some b4 ∧ ∀ h3 : mxH, h3 = hsR h2 x0 10 (some b4) → ∀ h4 : mxH, h4 = hsR h3 x0 11 (some b3) → ∃ b5 : Nat, hpR h4 x0 5 = some b5 ∧ hpK h4 b5 = 10 ∧ mx_SM mY_X10_beginAnew (d - 1) [.ref b5] h4 (mx_KV (fun h5 => hpK h5 x0 = 11 ∧ ∀ h6 : mxH, h6 = hsI h5 x0 7 (0 : Int32) → Q (.inl (some (.int v1))) h6) (mx_XX mY_X11_load Q))) (mx_XX mY_X11_load Q))) : mx_SM mY_X11_load d [.ref x0] h Q := by
  refine mx_SM_of (by decide) (Nat.le_of_ble_eq_true rfl) ?_
  show mx_SX mY_X11_load d 0 [(0, .ref x0)] [] h Q
  refine mx_aload_n (pc := 0) 0 (mx_dd dd_X11_load 0 (0, .aload_n 0, 1) rfl) rfl rfl ?_
  obtain ⟨g1, P⟩ := P
  refine mx_getI (pc := 1) mx_fl_X11_74 g1 rfl (mx_dd dd_X11_load 1 (1, .getfield 74, 3) rfl) ?_
  refine mx_istore_n (pc := 4) (mx_dd dd_X11_load 2 (4, .istore_n 1, 1) rfl) rfl (by decide) (lv' := [(1, _), (0, _)]) rfl ?_
  refine mx_aload_n (pc := 5) 1 (mx_dd dd_X11_load 3 (5, .aload_n 0, 1) rfl) rfl rfl ?_
  refine mx_iconst (pc := 6) (v := (0 : Int32)) (mx_dd dd_X11_load 4 (6, .iconst 0, 1) rfl) (by decide) ?_
  refine mx_putI (pc := 7) mx_fl_X11_74 g1 rfl (.inl rfl) rfl rfl (mx_dd dd_X11_load 5 (7, .putfield 74, 3) rfl) ?_
  have P := P _ rfl
  refine mx_aload_n (pc := 10) 1 (mx_dd dd_X11_load 6 (10, .aload_n 0, 1) rfl) rfl rfl ?_
  obtain ⟨b1, g2, P⟩ := P
  refine mx_getR (pc := 11) mx_fl_X11_44 g1 rfl g2 (mx_dd dd_X11_load 7 (11, .getfield 44, 3) rfl) ?_
  refine mx_iload_n (pc := 14) 0 (mx_dd dd_X11_load 8 (14, .iload_n 1, 1) rfl) rfl rfl ?_
  refine mx_aload_n (pc := 15) 1 (mx_dd dd_X11_load 9 (15, .aload_n 0, 1) rfl) rfl rfl ?_
  obtain ⟨b2, g3, P⟩ := P
  refine mx_getR (pc := 16) mx_fl_X11_64 g1 rfl g3 (mx_dd dd_X11_load 10 (16, .getfield 64, 3) rfl) ?_
  obtain ⟨g4, P⟩ := P
  obtain ⟨g5, P⟩ := P
  refine mx_cVI (pc := 19) (Y := mY_X6_parse) (As := [.int _, .ref _]) mx_ml_X11_82 mx_y_X6_parse rfl g5 (by decide) rfl (by decide) rfl (mx_dd dd_X11_load 11 (19, .invokevirtual 82, 3) rfl) g4 (by decide) P (fun v1 h2 P => ?_)
  refine mx_istore_n (pc := 22) (mx_dd dd_X11_load 12 (22, .istore_n 2, 1) rfl) rfl (by decide) (lv' := [(2, _), (1, _), (0, _)]) rfl ?_
  refine mx_aload_n (pc := 23) 2 (mx_dd dd_X11_load 13 (23, .aload_n 0, 1) rfl) rfl rfl ?_
  obtain ⟨g6, P⟩ := P
  obtain ⟨b3, g7, P⟩ := P
  refine mx_getR (pc := 24) mx_fl_X11_60 g6 rfl g7 (mx_dd dd_X11_load 14 (24, .getfield 60, 3) rfl) ?_
  refine mx_astore_n (pc := 27) (mx_dd dd_X11_load 15 (27, .astore_n 3, 1) rfl) rfl (by decide) (lv' := [(3, _), (2, _), (1, _), (0, _)]) rfl ?_
  refine mx_aload_n (pc := 28) 3 (mx_dd dd_X11_load 16 (28, .aload_n 0, 1) rfl) rfl rfl ?_
  refine mx_aload_n (pc := 29) 3 (mx_dd dd_X11_load 17 (29, .aload_n 0, 1) rfl) rfl rfl ?_
  obtain ⟨b4, g8, P⟩ := P
  refine mx_getR (pc := 30) mx_fl_X11_64 g6 rfl g8 (mx_dd dd_X11_load 18 (30, .getfield 64, 3) rfl) ?_
  refine mx_putR (pc := 33) mx_fl_X11_60 g6 rfl (.inl rfl) (mx_dd dd_X11_load 19 (33, .putfield 60, 3) rfl) ?_
  have P := P _ rfl
  refine mx_aload_n (pc := 36) 3 (mx_dd dd_X11_load 20 (36, .aload_n 0, 1) rfl) rfl rfl ?_
  refine mx_aload_n (pc := 37) 0 (mx_dd dd_X11_load 21 (37, .aload_n 3, 1) rfl) rfl rfl ?_
  refine mx_putR (pc := 38) mx_fl_X11_64 g6 rfl (.inl rfl) (mx_dd dd_X11_load 22 (38, .putfield 64, 3) rfl) ?_
  have P := P _ rfl
  refine mx_aload_n (pc := 41) 3 (mx_dd dd_X11_load 23 (41, .aload_n 0, 1) rfl) rfl rfl ?_
  obtain ⟨b5, g9, P⟩ := P
  refine mx_getR (pc := 42) mx_fl_X11_31 g6 rfl g9 (mx_dd dd_X11_load 24 (42, .getfield 31, 3) rfl) ?_
  obtain ⟨g10, P⟩ := P
  refine mx_cVV (pc := 45) (Y := mY_X10_beginAnew) (As := []) mx_ml_X11_71 mx_y_X10_beginAnew rfl g10 (by decide) rfl (by decide) rfl (mx_dd dd_X11_load 25 (45, .invokevirtual 71, 3) rfl) g4 (by decide) P (fun h5 P => ?_)
  refine mx_aload_n (pc := 48) 3 (mx_dd dd_X11_load 26 (48, .aload_n 0, 1) rfl) rfl rfl ?_
  refine mx_iconst (pc := 49) (v := (0 : Int32)) (mx_dd dd_X11_load 27 (49, .iconst 0, 1) rfl) (by decide) ?_
  obtain ⟨g11, P⟩ := P
  refine mx_putI (pc := 50) mx_fl_X11_86 g11 rfl (.inl rfl) rfl rfl (mx_dd dd_X11_load 28 (50, .putfield 86, 3) rfl) ?_
  have P := P _ rfl
  refine mx_iload_n (pc := 53) 1 (mx_dd dd_X11_load 29 (53, .iload_n 2, 1) rfl) rfl rfl ?_
  exact mx_ireturn (pc := 54) (mx_dd dd_X11_load 30 (54, .ireturn, 1) rfl) rfl rfl P
theorem b_X11_errorOffset {d : Nat} {h : mxH} {Q : mxRes → mxH → Prop} (x0 : Nat)
    (P : hpK h x0 = 11 ∧ ∃ b1 : Nat, hpR h x0 8 = some b1 ∧ hpK h b1 = 6 ∧ Q (.inl (some (.int (hpI h b1 8)))) h) : mx_SM mY_X11_errorOffset d [.ref x0] h Q := by
  refine mx_SM_of (by decide) (Nat.le_of_ble_eq_true rfl) ?_
  show mx_SX mY_X11_errorOffset d 0 [(0, .ref x0)] [] h Q
  refine mx_aload_n (pc := 0) 0 (mx_dd dd_X11_errorOffset 0 (0, .aload_n 0, 1) rfl) rfl rfl ?_
  obtain ⟨g1, P⟩ := P
  obtain ⟨b1, g2, P⟩ := P
  refine mx_getR (pc := 1) mx_fl_X11_44 g1 rfl g2 (mx_dd dd_X11_errorOffset 1 (1, .getfield 44, 3) rfl) ?_
  obtain ⟨g3, P⟩ := P
  refine mx_getI (pc := 4) mx_fl_X11_89 g3 rfl (mx_dd dd_X11_errorOffset 2 (4, .getfield 89, 3) rfl) ?_
  exact mx_ireturn (pc := 7) (mx_dd dd_X11_errorOffset 3 (7, .ireturn, 1) rfl) rfl rfl P
theorem b_X11_errorKind {d : Nat} {h : mxH} {Q : mxRes → mxH → Prop} (x0 : Nat)
    (P : hpK h x0 = 11 ∧ ∃ b1 : Nat, hpR h x0 8 = some b1 ∧ hpK h b1 = 6 ∧ Q (.inl (some (.int (hpI h b1 7)))) h) : mx_SM mY_X11_errorKind d [.ref x0] h Q := by
  refine mx_SM_of (by decide) (Nat.le_of_ble_eq_true rfl) ?_
  show mx_SX mY_X11_errorKind d 0 [(0, .ref x0)] [] h Q
  refine mx_aload_n (pc := 0) 0 (mx_dd dd_X11_errorKind 0 (0, .aload_n 0, 1) rfl) rfl rfl ?_
  obtain ⟨g1, P⟩ := P
  obtain ⟨b1, g2, P⟩ := P
  refine mx_getR (pc := 1) mx_fl_X11_44 g1 rfl g2 (mx_dd dd_X11_errorKind 1 (1, .getfield 44, 3) rfl) ?_
  obtain ⟨g3, P⟩ := P
  refine mx_getI (pc := 4) mx_fl_X11_92 g3 rfl (mx_dd dd_X11_errorKind 2 (4, .getfield 92, 3) rfl) ?_
  exact mx_ireturn (pc := 7) (mx_dd dd_X11_errorKind 3 (7, .ireturn, 1) rfl) rfl rfl P
theorem b_X11_type {d : Nat} {h : mxH} {Q : mxRes → mxH → Prop} (x0 : Nat)
    (P : hpK h x0 = 11 ∧ ∀ h1 : mxH, h1 = hsI h x0 1 (0 : Int32) → ∃ b1 : Nat, hpR h1 x0 5 = some b1 ∧ hpK h1 b1 = 10 ∧ 1 ≤ d ∧ mx_SM mY_X11_typedLines (d - 1) [.ref x0, .int (hpI h x0 1)] h1 (mx_KI (fun v1 h2 => ((((hpI h1 b1 5) + v1) ≤ (40 : Int32) → hpK h2 x0 = 11 ∧ mx_SM mY_X11_remember (d - 1) [.ref x0] h2 (mx_KV (fun h3 => mx_SX mY_X11_type d 46 [(0, .ref x0), (1, .int (hpI h x0 1)), (2, .int (0 : Int32)), (3, .int (0 : Int32))] [] h3 Q) (mx_XX mY_X11_type Q))) ∧ (¬ ((hpI h1 b1 5) + v1) ≤ (40 : Int32) → 12 ≤ d ∧ Q (.inr "java/lang/IllegalStateException") (hth h2)))) (mx_XX mY_X11_type Q))) : mx_SM mY_X11_type d [.ref x0] h Q := by
  refine mx_SM_of (by decide) (Nat.le_of_ble_eq_true rfl) ?_
  show mx_SX mY_X11_type d 0 [(0, .ref x0)] [] h Q
  refine mx_aload_n (pc := 0) 0 (mx_dd dd_X11_type_0 0 (0, .aload_n 0, 1) rfl) rfl rfl ?_
  obtain ⟨g1, P⟩ := P
  refine mx_getI (pc := 1) mx_fl_X11_74 g1 rfl (mx_dd dd_X11_type_0 1 (1, .getfield 74, 3) rfl) ?_
  refine mx_istore_n (pc := 4) (mx_dd dd_X11_type_0 2 (4, .istore_n 1, 1) rfl) rfl (by decide) (lv' := [(1, _), (0, _)]) rfl ?_
  refine mx_aload_n (pc := 5) 1 (mx_dd dd_X11_type_0 3 (5, .aload_n 0, 1) rfl) rfl rfl ?_
  refine mx_iconst (pc := 6) (v := (0 : Int32)) (mx_dd dd_X11_type_0 4 (6, .iconst 0, 1) rfl) (by decide) ?_
  refine mx_putI (pc := 7) mx_fl_X11_74 g1 rfl (.inl rfl) rfl rfl (mx_dd dd_X11_type_0 5 (7, .putfield 74, 3) rfl) ?_
  have P := P _ rfl
  refine mx_aload_n (pc := 10) 1 (mx_dd dd_X11_type_0 6 (10, .aload_n 0, 1) rfl) rfl rfl ?_
  obtain ⟨b1, g2, P⟩ := P
  refine mx_getR (pc := 11) mx_fl_X11_31 g1 rfl g2 (mx_dd dd_X11_type_0 7 (11, .getfield 31, 3) rfl) ?_
  obtain ⟨g3, P⟩ := P
  refine mx_getI (pc := 14) mx_fl_X11_95 g3 rfl (mx_dd dd_X11_type_0 8 (14, .getfield 95, 3) rfl) ?_
  refine mx_aload_n (pc := 17) 1 (mx_dd dd_X11_type_0 9 (17, .aload_n 0, 1) rfl) rfl rfl ?_
  refine mx_iload_n (pc := 18) 0 (mx_dd dd_X11_type_0 10 (18, .iload_n 1, 1) rfl) rfl rfl ?_
  obtain ⟨g4, P⟩ := P
  refine mx_cVI (pc := 19) (Y := mY_X11_typedLines) (As := [.int _]) mx_ml_X11_98 mx_y_X11_typedLines rfl g1 (by decide) rfl (by simp [Value.category]) rfl (mx_dd dd_X11_type_0 11 (19, .invokevirtual 98, 3) rfl) g4 (by decide) P (fun v1 h2 P => ?_)
  refine mx_iadd (pc := 22) (mx_dd dd_X11_type_0 12 (22, .iadd, 1) rfl) ?_
  refine mx_bipush (pc := 23) (v := (40 : Int32)) (mx_dd dd_X11_type_0 13 (23, .bipush 40, 2) rfl) (by decide) ?_
  refine mx_icmp_le (pc := 25) 38 (mx_dd dd_X11_type_0 14 (25, .if_icmp .le 13, 3) rfl) rfl (fun c25 => ?_) (fun c25 => ?_)
  · have P := P.1 c25
    refine mx_aload_n (pc := 38) 1 (mx_dd dd_X11_type_0 20 (38, .aload_n 0, 1) rfl) rfl rfl ?_
    obtain ⟨g5, P⟩ := P
    refine mx_cVV (pc := 39) (Y := mY_X11_remember) (As := []) mx_ml_X11_108 mx_y_X11_remember rfl g5 (by decide) rfl (by decide) rfl (mx_dd dd_X11_type_0 21 (39, .invokevirtual 108, 3) rfl) g4 (by decide) P (fun h3 P => ?_)
    refine mx_iconst (pc := 42) (v := (0 : Int32)) (mx_dd dd_X11_type_0 22 (42, .iconst 0, 1) rfl) (by decide) ?_
    refine mx_istore_n (pc := 43) (mx_dd dd_X11_type_0 23 (43, .istore_n 2, 1) rfl) rfl (by decide) (lv' := [(2, _), (1, _), (0, _)]) rfl ?_
    refine mx_iconst (pc := 44) (v := (0 : Int32)) (mx_dd dd_X11_type_0 24 (44, .iconst 0, 1) rfl) (by decide) ?_
    refine mx_istore_n (pc := 45) (mx_dd dd_X11_type_0 25 (45, .istore_n 3, 1) rfl) rfl (by decide) (lv' := [(3, _), (2, _), (1, _), (0, _)]) rfl ?_
    refine mx_sel [3, 2, 1, 0] rfl ?_
    exact P
  · have P := P.2 c25
    obtain ⟨g6, P⟩ := P
    exact mx_th_X11_type_28 g6 P
theorem b_X11_type_46 {d : Nat} {h : mxH} {Q : mxRes → mxH → Prop} (x0 : Nat) (x1 : Int32) (x2 : Int32) (x3 : Int32)
    (P : ((x1 ≤ x3 → mx_SX mY_X11_type d 101 [(0, .ref x0), (1, .int x1), (2, .int x2)] [] h Q) ∧ (¬ x1 ≤ x3 → (((700 : Int32) ≤ x3 → mx_SX mY_X11_type d 101 [(0, .ref x0), (1, .int x1), (2, .int x2)] [] h Q) ∧ (¬ (700 : Int32) ≤ x3 → hpK h x0 = 11 ∧ ∃ b1 : Nat, hpR h x0 0 = some b1 ∧ hpK h b1 = 13 ∧ vp_in x3 (hpZ h b1) ∧ ((¬ (hpI h b1 x3.toNatClampNeg) = (10 : Int32) → mx_SX mY_X11_type d 95 [(0, .ref x0), (1, .int x1), (2, .int x2), (3, .int x3)] [] h Q) ∧ ((hpI h b1 x3.toNatClampNeg) = (10 : Int32) → ∃ b2 : Nat, hpR h x0 5 = some b2 ∧ ∃ b3 : Nat, hpR h x0 4 = some b3 ∧ 1 ≤ d ∧ hpK h b3 = 3 ∧ mx_SM mY_X3_make (d - 1) [.ref b3, .ref b1, .int x2, .int (x3 - x2)] h (mx_KI (fun v1 h1 => hpK h1 b2 = 10 ∧ mx_SM mY_X10_addInput (d - 1) [.ref b2, .int v1] h1 (mx_KV (fun h2 => mx_SX mY_X11_type d 95 [(0, .ref x0), (1, .int x1), (2, .int (x3 + (1 : Int32))), (3, .int x3)] [] h2 Q) (mx_XX mY_X11_type Q))) (mx_XX mY_X11_type Q))))))))) : mx_SX mY_X11_type d 46 [(0, .ref x0), (1, .int x1), (2, .int x2), (3, .int x3)] [] h Q := by
  refine mx_iload_n (pc := 46) 3 (mx_dd dd_X11_type_0 26 (46, .iload_n 3, 1) rfl) rfl rfl ?_
  refine mx_iload_n (pc := 47) 1 (mx_dd dd_X11_type_0 27 (47, .iload_n 1, 1) rfl) rfl rfl ?_
  refine mx_icmp_ge (pc := 48) 101 (mx_dd dd_X11_type_0 28 (48, .if_icmp .ge 53, 3) rfl) rfl (fun c48 => ?_) (fun c48 => ?_)
  · have P := P.1 c48
    refine mx_sel [0, 1, 2] rfl ?_
    exact P
  · have P := P.2 c48
    refine mx_iload_n (pc := 51) 3 (mx_dd dd_X11_type_0 29 (51, .iload_n 3, 1) rfl) rfl rfl ?_
    refine mx_sipush (pc := 52) (v := (700 : Int32)) (mx_dd dd_X11_type_0 30 (52, .sipush 700, 3) rfl) (by decide) ?_
    refine mx_icmp_ge (pc := 55) 101 (mx_dd dd_X11_type_0 31 (55, .if_icmp .ge 46, 3) rfl) rfl (fun c55 => ?_) (fun c55 => ?_)
    · have P := P.1 c55
      refine mx_sel [0, 1, 2] rfl ?_
      exact P
    · have P := P.2 c55
      refine mx_aload_n (pc := 58) 0 (mx_dd dd_X11_type_0 32 (58, .aload_n 0, 1) rfl) rfl rfl ?_
      obtain ⟨g1, P⟩ := P
      obtain ⟨b1, g2, P⟩ := P
      refine mx_getR (pc := 59) mx_fl_X11_9 g1 rfl g2 (mx_dd dd_X11_type_0 33 (59, .getfield 9, 3) rfl) ?_
      refine mx_iload_n (pc := 62) 3 (mx_dd dd_X11_type_0 34 (62, .iload_n 3, 1) rfl) rfl rfl ?_
      obtain ⟨g3, P⟩ := P
      obtain ⟨g4, P⟩ := P
      refine mx_bald (pc := 63) g3 g4 (mx_dd dd_X11_type_0 35 (63, .baload, 1) rfl) ?_
      refine mx_bipush (pc := 64) (v := (10 : Int32)) (mx_dd dd_X11_type_0 36 (64, .bipush 10, 2) rfl) (by decide) ?_
      refine mx_icmp_ne (pc := 66) 95 (mx_dd dd_X11_type_0 37 (66, .if_icmp .ne 29, 3) rfl) rfl (fun c66 => ?_) (fun c66 => ?_)
      · have P := P.1 c66
        exact P
      · have P := P.2 c66
        refine mx_aload_n (pc := 69) 0 (mx_dd dd_X11_type_0 38 (69, .aload_n 0, 1) rfl) rfl rfl ?_
        obtain ⟨b2, g5, P⟩ := P
        refine mx_getR (pc := 70) mx_fl_X11_31 g1 rfl g5 (mx_dd dd_X11_type_0 39 (70, .getfield 31, 3) rfl) ?_
        refine mx_aload_n (pc := 73) 0 (mx_dd dd_X11_type_1 0 (73, .aload_n 0, 1) rfl) rfl rfl ?_
        obtain ⟨b3, g6, P⟩ := P
        refine mx_getR (pc := 74) mx_fl_X11_19 g1 rfl g6 (mx_dd dd_X11_type_1 1 (74, .getfield 19, 3) rfl) ?_
        refine mx_aload_n (pc := 77) 0 (mx_dd dd_X11_type_1 2 (77, .aload_n 0, 1) rfl) rfl rfl ?_
        refine mx_getR (pc := 78) mx_fl_X11_9 g1 rfl g2 (mx_dd dd_X11_type_1 3 (78, .getfield 9, 3) rfl) ?_
        refine mx_iload_n (pc := 81) 2 (mx_dd dd_X11_type_1 4 (81, .iload_n 2, 1) rfl) rfl rfl ?_
        refine mx_iload_n (pc := 82) 3 (mx_dd dd_X11_type_1 5 (82, .iload_n 3, 1) rfl) rfl rfl ?_
        refine mx_iload_n (pc := 83) 2 (mx_dd dd_X11_type_1 6 (83, .iload_n 2, 1) rfl) rfl rfl ?_
        refine mx_isub (pc := 84) (mx_dd dd_X11_type_1 7 (84, .isub, 1) rfl) ?_
        obtain ⟨g7, P⟩ := P
        obtain ⟨g8, P⟩ := P
        refine mx_cVI (pc := 85) (Y := mY_X3_make) (As := [.ref _, .int _, .int _]) mx_ml_X11_111 mx_y_X3_make rfl g8 (by decide) rfl (by simp [Value.category]) rfl (mx_dd dd_X11_type_1 8 (85, .invokevirtual 111, 3) rfl) g7 (by decide) P (fun v1 h1 P => ?_)
        obtain ⟨g9, P⟩ := P
        refine mx_cVV (pc := 88) (Y := mY_X10_addInput) (As := [.int _]) mx_ml_X11_115 mx_y_X10_addInput rfl g9 (by decide) rfl (by decide) rfl (mx_dd dd_X11_type_1 9 (88, .invokevirtual 115, 3) rfl) g7 (by decide) P (fun h2 P => ?_)
        refine mx_iload_n (pc := 91) 3 (mx_dd dd_X11_type_1 10 (91, .iload_n 3, 1) rfl) rfl rfl ?_
        refine mx_iconst (pc := 92) (v := (1 : Int32)) (mx_dd dd_X11_type_1 11 (92, .iconst 1, 1) rfl) (by decide) ?_
        refine mx_iadd (pc := 93) (mx_dd dd_X11_type_1 12 (93, .iadd, 1) rfl) ?_
        refine mx_istore_n (pc := 94) (mx_dd dd_X11_type_1 13 (94, .istore_n 2, 1) rfl) rfl (by decide) (lv' := [(2, _), (0, _), (1, _), (3, _)]) rfl ?_
        refine mx_sel [1, 2, 0, 3] rfl ?_
        exact P
theorem b_X11_type_95 {d : Nat} {h : mxH} {Q : mxRes → mxH → Prop} (x0 : Nat) (x1 : Int32) (x2 : Int32) (x3 : Int32)
    (P : mx_SX mY_X11_type d 46 [(0, .ref x0), (1, .int x1), (2, .int x2), (3, .int (x3 + (1 : Int32)))] [] h Q) : mx_SX mY_X11_type d 95 [(0, .ref x0), (1, .int x1), (2, .int x2), (3, .int x3)] [] h Q := by
  refine mx_iinc (pc := 95) 3 (mx_dd dd_X11_type_1 14 (95, .iinc 3 1, 3) rfl) rfl (mx_kadd (by decide : Int32.ofInt 1 = (1 : Int32))) (by decide) (lv' := [(3, _), (0, _), (1, _), (2, _)]) rfl ?_
  refine mx_goto (pc := 98) 46 (mx_dd dd_X11_type_1 15 (98, .goto (-52), 3) rfl) rfl ?_
  refine mx_sel [1, 2, 3, 0] rfl ?_
  exact P
theorem b_X11_type_101 {d : Nat} {h : mxH} {Q : mxRes → mxH → Prop} (x0 : Nat) (x1 : Int32) (x2 : Int32)
    (P : ((x1 ≤ x2 → hpK h x0 = 11 ∧ ∃ b1 : Nat, hpR h x0 5 = some b1 ∧ hpK h b1 = 10 ∧ Q (.inl (some (.int (hpI h b1 5)))) h) ∧ (¬ x1 ≤ x2 → hpK h x0 = 11 ∧ ∃ b2 : Nat, hpR h x0 5 = some b2 ∧ ∃ b3 : Nat, hpR h x0 4 = some b3 ∧ ∃ b4 : Nat, hpR h x0 0 = some b4 ∧ 1 ≤ d ∧ hpK h b3 = 3 ∧ mx_SM mY_X3_make (d - 1) [.ref b3, .ref b4, .int x2, .int (x1 - x2)] h (mx_KI (fun v1 h1 => hpK h1 b2 = 10 ∧ mx_SM mY_X10_addInput (d - 1) [.ref b2, .int v1] h1 (mx_KV (fun h2 => hpK h2 x0 = 11 ∧ ∃ b5 : Nat, hpR h2 x0 5 = some b5 ∧ hpK h2 b5 = 10 ∧ Q (.inl (some (.int (hpI h2 b5 5)))) h2) (mx_XX mY_X11_type Q))) (mx_XX mY_X11_type Q))))) : mx_SX mY_X11_type d 101 [(0, .ref x0), (1, .int x1), (2, .int x2)] [] h Q := by
  refine mx_iload_n (pc := 101) 2 (mx_dd dd_X11_type_1 16 (101, .iload_n 2, 1) rfl) rfl rfl ?_
  refine mx_iload_n (pc := 102) 1 (mx_dd dd_X11_type_1 17 (102, .iload_n 1, 1) rfl) rfl rfl ?_
  refine mx_icmp_ge (pc := 103) 128 (mx_dd dd_X11_type_1 18 (103, .if_icmp .ge 25, 3) rfl) rfl (fun c103 => ?_) (fun c103 => ?_)
  · have P := P.1 c103
    refine mx_aload_n (pc := 128) 0 (mx_dd dd_X11_type_1 31 (128, .aload_n 0, 1) rfl) rfl rfl ?_
    obtain ⟨g1, P⟩ := P
    obtain ⟨b1, g2, P⟩ := P
    refine mx_getR (pc := 129) mx_fl_X11_31 g1 rfl g2 (mx_dd dd_X11_type_1 32 (129, .getfield 31, 3) rfl) ?_
    obtain ⟨g3, P⟩ := P
    refine mx_getI (pc := 132) mx_fl_X11_95 g3 rfl (mx_dd dd_X11_type_1 33 (132, .getfield 95, 3) rfl) ?_
    exact mx_ireturn (pc := 135) (mx_dd dd_X11_type_1 34 (135, .ireturn, 1) rfl) rfl rfl P
  · have P := P.2 c103
    refine mx_aload_n (pc := 106) 0 (mx_dd dd_X11_type_1 19 (106, .aload_n 0, 1) rfl) rfl rfl ?_
    obtain ⟨g4, P⟩ := P
    obtain ⟨b2, g5, P⟩ := P
    refine mx_getR (pc := 107) mx_fl_X11_31 g4 rfl g5 (mx_dd dd_X11_type_1 20 (107, .getfield 31, 3) rfl) ?_
    refine mx_aload_n (pc := 110) 0 (mx_dd dd_X11_type_1 21 (110, .aload_n 0, 1) rfl) rfl rfl ?_
    obtain ⟨b3, g6, P⟩ := P
    refine mx_getR (pc := 111) mx_fl_X11_19 g4 rfl g6 (mx_dd dd_X11_type_1 22 (111, .getfield 19, 3) rfl) ?_
    refine mx_aload_n (pc := 114) 0 (mx_dd dd_X11_type_1 23 (114, .aload_n 0, 1) rfl) rfl rfl ?_
    obtain ⟨b4, g7, P⟩ := P
    refine mx_getR (pc := 115) mx_fl_X11_9 g4 rfl g7 (mx_dd dd_X11_type_1 24 (115, .getfield 9, 3) rfl) ?_
    refine mx_iload_n (pc := 118) 2 (mx_dd dd_X11_type_1 25 (118, .iload_n 2, 1) rfl) rfl rfl ?_
    refine mx_iload_n (pc := 119) 1 (mx_dd dd_X11_type_1 26 (119, .iload_n 1, 1) rfl) rfl rfl ?_
    refine mx_iload_n (pc := 120) 2 (mx_dd dd_X11_type_1 27 (120, .iload_n 2, 1) rfl) rfl rfl ?_
    refine mx_isub (pc := 121) (mx_dd dd_X11_type_1 28 (121, .isub, 1) rfl) ?_
    obtain ⟨g8, P⟩ := P
    obtain ⟨g9, P⟩ := P
    refine mx_cVI (pc := 122) (Y := mY_X3_make) (As := [.ref _, .int _, .int _]) mx_ml_X11_111 mx_y_X3_make rfl g9 (by decide) rfl (by simp [Value.category]) rfl (mx_dd dd_X11_type_1 29 (122, .invokevirtual 111, 3) rfl) g8 (by decide) P (fun v1 h1 P => ?_)
    obtain ⟨g10, P⟩ := P
    refine mx_cVV (pc := 125) (Y := mY_X10_addInput) (As := [.int _]) mx_ml_X11_115 mx_y_X10_addInput rfl g10 (by decide) rfl (by decide) rfl (mx_dd dd_X11_type_1 30 (125, .invokevirtual 115, 3) rfl) g8 (by decide) P (fun h2 P => ?_)
    refine mx_aload_n (pc := 128) 0 (mx_dd dd_X11_type_1 31 (128, .aload_n 0, 1) rfl) rfl rfl ?_
    obtain ⟨g11, P⟩ := P
    obtain ⟨b5, g12, P⟩ := P
    refine mx_getR (pc := 129) mx_fl_X11_31 g11 rfl g12 (mx_dd dd_X11_type_1 32 (129, .getfield 31, 3) rfl) ?_
    obtain ⟨g13, P⟩ := P
    refine mx_getI (pc := 132) mx_fl_X11_95 g13 rfl (mx_dd dd_X11_type_1 33 (132, .getfield 95, 3) rfl) ?_
    exact mx_ireturn (pc := 135) (mx_dd dd_X11_type_1 34 (135, .ireturn, 1) rfl) rfl rfl P
theorem b_X11_typedLines {d : Nat} {h : mxH} {Q : mxRes → mxH → Prop} (x0 : Nat) (x1 : Int32)
    (P : mx_SX mY_X11_typedLines d 7 [(0, .ref x0), (1, .int x1), (2, .int (0 : Int32)), (3, .int (0 : Int32)), (4, .int (0 : Int32))] [] h Q) : mx_SM mY_X11_typedLines d [.ref x0, .int x1] h Q := by
  refine mx_SM_of (by decide) (Nat.le_of_ble_eq_true rfl) ?_
  show mx_SX mY_X11_typedLines d 0 [(0, .ref x0), (1, .int x1)] [] h Q
  refine mx_iconst (pc := 0) (v := (0 : Int32)) (mx_dd dd_X11_typedLines 0 (0, .iconst 0, 1) rfl) (by decide) ?_
  refine mx_istore_n (pc := 1) (mx_dd dd_X11_typedLines 1 (1, .istore_n 2, 1) rfl) rfl (by decide) (lv' := [(2, _), (0, _), (1, _)]) rfl ?_
  refine mx_iconst (pc := 2) (v := (0 : Int32)) (mx_dd dd_X11_typedLines 2 (2, .iconst 0, 1) rfl) (by decide) ?_
  refine mx_istore_n (pc := 3) (mx_dd dd_X11_typedLines 3 (3, .istore_n 3, 1) rfl) rfl (by decide) (lv' := [(3, _), (2, _), (0, _), (1, _)]) rfl ?_
  refine mx_iconst (pc := 4) (v := (0 : Int32)) (mx_dd dd_X11_typedLines 4 (4, .iconst 0, 1) rfl) (by decide) ?_
  refine mx_istore (pc := 5) (mx_dd dd_X11_typedLines 5 (5, .istore 4, 2) rfl) (by decide) (lv' := [(4, _), (3, _), (2, _), (0, _), (1, _)]) rfl ?_
  refine mx_sel [3, 4, 2, 1, 0] rfl ?_
  exact P
theorem b_X11_typedLines_7 {d : Nat} {h : mxH} {Q : mxRes → mxH → Prop} (x0 : Nat) (x1 : Int32) (x2 : Int32) (x3 : Int32) (x4 : Int32)
    (P : ((x1 ≤ x4 → mx_SX mY_X11_typedLines d 47 [(1, .int x1), (2, .int x2), (3, .int x3)] [] h Q) ∧ (¬ x1 ≤ x4 → (((700 : Int32) ≤ x4 → mx_SX mY_X11_typedLines d 47 [(1, .int x1), (2, .int x2), (3, .int x3)] [] h Q) ∧ (¬ (700 : Int32) ≤ x4 → hpK h x0 = 11 ∧ ∃ b1 : Nat, hpR h x0 0 = some b1 ∧ hpK h b1 = 13 ∧ vp_in x4 (hpZ h b1) ∧ ((¬ (hpI h b1 x4.toNatClampNeg) = (10 : Int32) → mx_SX mY_X11_typedLines d 41 [(0, .ref x0), (1, .int x1), (2, .int x2), (3, .int x3), (4, .int x4)] [] h Q) ∧ ((hpI h b1 x4.toNatClampNeg) = (10 : Int32) → mx_SX mY_X11_typedLines d 41 [(0, .ref x0), (1, .int x1), (2, .int (x2 + (1 : Int32))), (3, .int (x4 + (1 : Int32))), (4, .int x4)] [] h Q))))))) : mx_SX mY_X11_typedLines d 7 [(0, .ref x0), (1, .int x1), (2, .int x2), (3, .int x3), (4, .int x4)] [] h Q := by
  refine mx_iload (pc := 7) 4 (mx_dd dd_X11_typedLines 6 (7, .iload 4, 2) rfl) rfl ?_
  refine mx_iload_n (pc := 9) 1 (mx_dd dd_X11_typedLines 7 (9, .iload_n 1, 1) rfl) rfl rfl ?_
  refine mx_icmp_ge (pc := 10) 47 (mx_dd dd_X11_typedLines 8 (10, .if_icmp .ge 37, 3) rfl) rfl (fun c10 => ?_) (fun c10 => ?_)
  · have P := P.1 c10
    refine mx_sel [1, 2, 3] rfl ?_
    exact P
  · have P := P.2 c10
    refine mx_iload (pc := 13) 4 (mx_dd dd_X11_typedLines 9 (13, .iload 4, 2) rfl) rfl ?_
    refine mx_sipush (pc := 15) (v := (700 : Int32)) (mx_dd dd_X11_typedLines 10 (15, .sipush 700, 3) rfl) (by decide) ?_
    refine mx_icmp_ge (pc := 18) 47 (mx_dd dd_X11_typedLines 11 (18, .if_icmp .ge 29, 3) rfl) rfl (fun c18 => ?_) (fun c18 => ?_)
    · have P := P.1 c18
      refine mx_sel [1, 2, 3] rfl ?_
      exact P
    · have P := P.2 c18
      refine mx_aload_n (pc := 21) 0 (mx_dd dd_X11_typedLines 12 (21, .aload_n 0, 1) rfl) rfl rfl ?_
      obtain ⟨g1, P⟩ := P
      obtain ⟨b1, g2, P⟩ := P
      refine mx_getR (pc := 22) mx_fl_X11_9 g1 rfl g2 (mx_dd dd_X11_typedLines 13 (22, .getfield 9, 3) rfl) ?_
      refine mx_iload (pc := 25) 4 (mx_dd dd_X11_typedLines 14 (25, .iload 4, 2) rfl) rfl ?_
      obtain ⟨g3, P⟩ := P
      obtain ⟨g4, P⟩ := P
      refine mx_bald (pc := 27) g3 g4 (mx_dd dd_X11_typedLines 15 (27, .baload, 1) rfl) ?_
      refine mx_bipush (pc := 28) (v := (10 : Int32)) (mx_dd dd_X11_typedLines 16 (28, .bipush 10, 2) rfl) (by decide) ?_
      refine mx_icmp_ne (pc := 30) 41 (mx_dd dd_X11_typedLines 17 (30, .if_icmp .ne 11, 3) rfl) rfl (fun c30 => ?_) (fun c30 => ?_)
      · have P := P.1 c30
        exact P
      · have P := P.2 c30
        refine mx_iinc (pc := 33) 2 (mx_dd dd_X11_typedLines 18 (33, .iinc 2 1, 3) rfl) rfl (mx_kadd (by decide : Int32.ofInt 1 = (1 : Int32))) (by decide) (lv' := [(2, _), (0, _), (1, _), (3, _), (4, _)]) rfl ?_
        refine mx_iload (pc := 36) 4 (mx_dd dd_X11_typedLines 19 (36, .iload 4, 2) rfl) rfl ?_
        refine mx_iconst (pc := 38) (v := (1 : Int32)) (mx_dd dd_X11_typedLines 20 (38, .iconst 1, 1) rfl) (by decide) ?_
        refine mx_iadd (pc := 39) (mx_dd dd_X11_typedLines 21 (39, .iadd, 1) rfl) ?_
        refine mx_istore_n (pc := 40) (mx_dd dd_X11_typedLines 22 (40, .istore_n 3, 1) rfl) rfl (by decide) (lv' := [(3, _), (2, _), (0, _), (1, _), (4, _)]) rfl ?_
        refine mx_sel [2, 3, 1, 0, 4] rfl ?_
        exact P
theorem b_X11_typedLines_41 {d : Nat} {h : mxH} {Q : mxRes → mxH → Prop} (x0 : Nat) (x1 : Int32) (x2 : Int32) (x3 : Int32) (x4 : Int32)
    (P : mx_SX mY_X11_typedLines d 7 [(0, .ref x0), (1, .int x1), (2, .int x2), (3, .int x3), (4, .int (x4 + (1 : Int32)))] [] h Q) : mx_SX mY_X11_typedLines d 41 [(0, .ref x0), (1, .int x1), (2, .int x2), (3, .int x3), (4, .int x4)] [] h Q := by
  refine mx_iinc (pc := 41) 4 (mx_dd dd_X11_typedLines 23 (41, .iinc 4 1, 3) rfl) rfl (mx_kadd (by decide : Int32.ofInt 1 = (1 : Int32))) (by decide) (lv' := [(4, _), (0, _), (1, _), (2, _), (3, _)]) rfl ?_
  refine mx_goto (pc := 44) 7 (mx_dd dd_X11_typedLines 24 (44, .goto (-37), 3) rfl) rfl ?_
  refine mx_sel [1, 2, 3, 4, 0] rfl ?_
  exact P
theorem b_X11_typedLines_47 {d : Nat} {h : mxH} {Q : mxRes → mxH → Prop} (x1 : Int32) (x2 : Int32) (x3 : Int32)
    (P : ((x1 ≤ x3 → Q (.inl (some (.int x2))) h) ∧ (¬ x1 ≤ x3 → Q (.inl (some (.int (x2 + (1 : Int32))))) h))) : mx_SX mY_X11_typedLines d 47 [(1, .int x1), (2, .int x2), (3, .int x3)] [] h Q := by
  refine mx_iload_n (pc := 47) 2 (mx_dd dd_X11_typedLines 25 (47, .iload_n 3, 1) rfl) rfl rfl ?_
  refine mx_iload_n (pc := 48) 0 (mx_dd dd_X11_typedLines 26 (48, .iload_n 1, 1) rfl) rfl rfl ?_
  refine mx_icmp_ge (pc := 49) 58 (mx_dd dd_X11_typedLines 27 (49, .if_icmp .ge 9, 3) rfl) rfl (fun c49 => ?_) (fun c49 => ?_)
  · have P := P.1 c49
    refine mx_iload_n (pc := 58) 1 (mx_dd dd_X11_typedLines 32 (58, .iload_n 2, 1) rfl) rfl rfl ?_
    exact mx_ireturn (pc := 59) (mx_dd dd_X11_typedLines 33 (59, .ireturn, 1) rfl) rfl rfl P
  · have P := P.2 c49
    refine mx_iload_n (pc := 52) 1 (mx_dd dd_X11_typedLines 28 (52, .iload_n 2, 1) rfl) rfl rfl ?_
    refine mx_iconst (pc := 53) (v := (1 : Int32)) (mx_dd dd_X11_typedLines 29 (53, .iconst 1, 1) rfl) (by decide) ?_
    refine mx_iadd (pc := 54) (mx_dd dd_X11_typedLines 30 (54, .iadd, 1) rfl) ?_
    refine mx_goto (pc := 55) 59 (mx_dd dd_X11_typedLines 31 (55, .goto 4, 3) rfl) rfl ?_
    exact mx_ireturn (pc := 59) (mx_dd dd_X11_typedLines 33 (59, .ireturn, 1) rfl) rfl rfl P
theorem b_X11_run {d : Nat} {h : mxH} {Q : mxRes → mxH → Prop} (x0 : Nat)
    (P : 1 ≤ d ∧ hpK h x0 = 11 ∧ mx_SM mY_X11_remember (d - 1) [.ref x0] h (mx_KV (fun h1 => hpK h1 x0 = 11 ∧ ∃ b1 : Nat, hpR h1 x0 9 = some b1 ∧ ∃ b2 : Nat, hpR h1 x0 10 = some b2 ∧ hpK h1 b1 = 4 ∧ mx_SM mY_X4_execute (d - 1) [.ref b1, .ref b2] h1 (mx_KV (fun h2 => hpK h2 x0 = 11 ∧ ∃ b3 : Nat, hpR h2 x0 5 = some b3 ∧ hpK h2 b3 = 10 ∧ ∃ b4 : Nat, hpR h2 b3 8 = some b4 ∧ hpK h2 b4 = 8 ∧ Q (.inl (some (.int (hpI h2 b4 6)))) h2) (mx_XX mY_X11_run Q))) (mx_XX mY_X11_run Q))) : mx_SM mY_X11_run d [.ref x0] h Q := by
  refine mx_SM_of (by decide) (Nat.le_of_ble_eq_true rfl) ?_
  show mx_SX mY_X11_run d 0 [(0, .ref x0)] [] h Q
  refine mx_aload_n (pc := 0) 0 (mx_dd dd_X11_run 0 (0, .aload_n 0, 1) rfl) rfl rfl ?_
  obtain ⟨g1, P⟩ := P
  obtain ⟨g2, P⟩ := P
  refine mx_cVV (pc := 1) (Y := mY_X11_remember) (As := []) mx_ml_X11_108 mx_y_X11_remember rfl g2 (by decide) rfl (by decide) rfl (mx_dd dd_X11_run 1 (1, .invokevirtual 108, 3) rfl) g1 (by decide) P (fun h1 P => ?_)
  refine mx_aload_n (pc := 4) 0 (mx_dd dd_X11_run 2 (4, .aload_n 0, 1) rfl) rfl rfl ?_
  obtain ⟨g3, P⟩ := P
  obtain ⟨b1, g4, P⟩ := P
  refine mx_getR (pc := 5) mx_fl_X11_53 g3 rfl g4 (mx_dd dd_X11_run 3 (5, .getfield 53, 3) rfl) ?_
  refine mx_aload_n (pc := 8) 0 (mx_dd dd_X11_run 4 (8, .aload_n 0, 1) rfl) rfl rfl ?_
  obtain ⟨b2, g5, P⟩ := P
  refine mx_getR (pc := 9) mx_fl_X11_60 g3 rfl g5 (mx_dd dd_X11_run 5 (9, .getfield 60, 3) rfl) ?_
  obtain ⟨g6, P⟩ := P
  refine mx_cVV (pc := 12) (Y := mY_X4_execute) (As := [.ref _]) mx_ml_X11_118 mx_y_X4_execute rfl g6 (by decide) rfl (by decide) rfl (mx_dd dd_X11_run 6 (12, .invokevirtual 118, 3) rfl) g1 (by decide) P (fun h2 P => ?_)
  refine mx_aload_n (pc := 15) 0 (mx_dd dd_X11_run 7 (15, .aload_n 0, 1) rfl) rfl rfl ?_
  obtain ⟨g7, P⟩ := P
  obtain ⟨b3, g8, P⟩ := P
  refine mx_getR (pc := 16) mx_fl_X11_31 g7 rfl g8 (mx_dd dd_X11_run 8 (16, .getfield 31, 3) rfl) ?_
  obtain ⟨g9, P⟩ := P
  obtain ⟨b4, g10, P⟩ := P
  refine mx_getR (pc := 19) mx_fl_X11_122 g9 rfl g10 (mx_dd dd_X11_run 9 (19, .getfield 122, 3) rfl) ?_
  obtain ⟨g11, P⟩ := P
  refine mx_getI (pc := 22) mx_fl_X11_126 g11 rfl (mx_dd dd_X11_run 10 (22, .getfield 126, 3) rfl) ?_
  exact mx_ireturn (pc := 25) (mx_dd dd_X11_run 11 (25, .ireturn, 1) rfl) rfl rfl P
theorem b_X11_remember {d : Nat} {h : mxH} {Q : mxRes → mxH → Prop} (x0 : Nat)
    (P : hpK h x0 = 11 ∧ (((hpI h x0 7) < (6 : Int32) → mx_SX mY_X11_remember d 56 [(0, .ref x0)] [] h Q) ∧ (¬ (hpI h x0 7) < (6 : Int32) → ∃ b1 : Nat, hpR h x0 6 = some b1 ∧ hpK h b1 = 20 ∧ vp_in (0 : Int32) (hpZ h b1) ∧ mx_SX mY_X11_remember d 18 [(0, .ref x0), (1, va_rf (hpR h b1 (0 : Int32).toNatClampNeg)), (2, .int (1 : Int32))] [] h Q))) : mx_SM mY_X11_remember d [.ref x0] h Q := by
  refine mx_SM_of (by decide) (Nat.le_of_ble_eq_true rfl) ?_
  show mx_SX mY_X11_remember d 0 [(0, .ref x0)] [] h Q
  refine mx_aload_n (pc := 0) 0 (mx_dd dd_X11_remember_0 0 (0, .aload_n 0, 1) rfl) rfl rfl ?_
  obtain ⟨g1, P⟩ := P
  refine mx_getI (pc := 1) mx_fl_X11_86 g1 rfl (mx_dd dd_X11_remember_0 1 (1, .getfield 86, 3) rfl) ?_
  refine mx_bipush (pc := 4) (v := (6 : Int32)) (mx_dd dd_X11_remember_0 2 (4, .bipush 6, 2) rfl) (by decide) ?_
  refine mx_icmp_lt (pc := 6) 56 (mx_dd dd_X11_remember_0 3 (6, .if_icmp .lt 50, 3) rfl) rfl (fun c6 => ?_) (fun c6 => ?_)
  · have P := P.1 c6
    exact P
  · have P := P.2 c6
    refine mx_aload_n (pc := 9) 0 (mx_dd dd_X11_remember_0 4 (9, .aload_n 0, 1) rfl) rfl rfl ?_
    obtain ⟨b1, g2, P⟩ := P
    refine mx_getR (pc := 10) mx_fl_X11_35 g1 rfl g2 (mx_dd dd_X11_remember_0 5 (10, .getfield 35, 3) rfl) ?_
    refine mx_iconst (pc := 13) (v := (0 : Int32)) (mx_dd dd_X11_remember_0 6 (13, .iconst 0, 1) rfl) (by decide) ?_
    obtain ⟨g3, P⟩ := P
    obtain ⟨g4, P⟩ := P
    refine mx_aaldO (pc := 14) g3 (by decide) g4 (mx_dd dd_X11_remember_0 7 (14, .aaload, 1) rfl) ?_
    refine mx_astore_nO (pc := 15) (mx_dd dd_X11_remember_0 8 (15, .astore_n 1, 1) rfl) rfl (by decide) (lv' := [(1, _), (0, _)]) rfl ?_
    refine mx_iconst (pc := 16) (v := (1 : Int32)) (mx_dd dd_X11_remember_0 9 (16, .iconst 1, 1) rfl) (by decide) ?_
    refine mx_istore_n (pc := 17) (mx_dd dd_X11_remember_0 10 (17, .istore_n 2, 1) rfl) rfl (by decide) rfl ?_
    refine mx_stoK [0, 1] (lv2 := [(1, _), (0, _)]) rfl ⟨⟨rfl, .inr mx_catO⟩, ⟨⟨rfl, .inl rfl⟩, trivial⟩⟩ ?_
    refine mx_sel [2, 1, 0] rfl ?_
    exact P
theorem b_X11_remember_18 {d : Nat} {h : mxH} {Q : mxRes → mxH → Prop} (x0 : Nat) (x1 : Option Nat) (x2 : Int32)
    (P : (((6 : Int32) ≤ x2 → hpK h x0 = 11 ∧ ∃ b1 : Nat, hpR h x0 6 = some b1 ∧ hpK h b1 = 20 ∧ vp_in (5 : Int32) (hpZ h b1) ∧ (∀ b, x1 = some b → hpK h b = 10) ∧ ∀ h1 : mxH, h1 = hsR h b1 (5 : Int32).toNatClampNeg x1 → ∀ h2 : mxH, h2 = hsI h1 x0 7 (5 : Int32) → mx_SX mY_X11_remember d 56 [(0, .ref x0)] [] h2 Q) ∧ (¬ (6 : Int32) ≤ x2 → hpK h x0 = 11 ∧ ∃ b2 : Nat, hpR h x0 6 = some b2 ∧ hpK h b2 = 20 ∧ vp_in x2 (hpZ h b2) ∧ vp_in (x2 - (1 : Int32)) (hpZ h b2) ∧ (∀ b, hpR h b2 x2.toNatClampNeg = some b → hpK h b = 10) ∧ ∀ h3 : mxH, h3 = hsR h b2 (x2 - (1 : Int32)).toNatClampNeg (hpR h b2 x2.toNatClampNeg) → mx_SX mY_X11_remember d 18 [(0, .ref x0), (1, va_rf x1), (2, .int (x2 + (1 : Int32)))] [] h3 Q))) : mx_SX mY_X11_remember d 18 [(0, .ref x0), (1, va_rf x1), (2, .int x2)] [] h Q := by
  refine mx_iload_n (pc := 18) 2 (mx_dd dd_X11_remember_0 11 (18, .iload_n 2, 1) rfl) rfl rfl ?_
  refine mx_bipush (pc := 19) (v := (6 : Int32)) (mx_dd dd_X11_remember_0 12 (19, .bipush 6, 2) rfl) (by decide) ?_
  refine mx_icmp_ge (pc := 21) 44 (mx_dd dd_X11_remember_0 13 (21, .if_icmp .ge 23, 3) rfl) rfl (fun c21 => ?_) (fun c21 => ?_)
  · have P := P.1 c21
    refine mx_aload_n (pc := 44) 0 (mx_dd dd_X11_remember_0 26 (44, .aload_n 0, 1) rfl) rfl rfl ?_
    obtain ⟨g1, P⟩ := P
    obtain ⟨b1, g2, P⟩ := P
    refine mx_getR (pc := 45) mx_fl_X11_35 g1 rfl g2 (mx_dd dd_X11_remember_0 27 (45, .getfield 35, 3) rfl) ?_
    refine mx_iconst (pc := 48) (v := (5 : Int32)) (mx_dd dd_X11_remember_0 28 (48, .iconst 5, 1) rfl) (by decide) ?_
    refine mx_aload_nO (pc := 49) 1 (mx_dd dd_X11_remember_0 29 (49, .aload_n 1, 1) rfl) rfl rfl ?_
    obtain ⟨g3, P⟩ := P
    obtain ⟨g4, P⟩ := P
    obtain ⟨g5, P⟩ := P
    refine mx_aastO (pc := 50) g3 (by decide) g5 (by decide) rfl g4 (mx_dd dd_X11_remember_0 30 (50, .aastore, 1) rfl) ?_
    have P := P _ rfl
    refine mx_aload_n (pc := 51) 0 (mx_dd dd_X11_remember_0 31 (51, .aload_n 0, 1) rfl) rfl rfl ?_
    refine mx_iconst (pc := 52) (v := (5 : Int32)) (mx_dd dd_X11_remember_0 32 (52, .iconst 5, 1) rfl) (by decide) ?_
    refine mx_putI (pc := 53) mx_fl_X11_86 g1 rfl (.inl rfl) rfl rfl (mx_dd dd_X11_remember_0 33 (53, .putfield 86, 3) rfl) ?_
    have P := P _ rfl
    refine mx_sel [0] rfl ?_
    exact P
  · have P := P.2 c21
    refine mx_aload_n (pc := 24) 0 (mx_dd dd_X11_remember_0 14 (24, .aload_n 0, 1) rfl) rfl rfl ?_
    obtain ⟨g6, P⟩ := P
    obtain ⟨b2, g7, P⟩ := P
    refine mx_getR (pc := 25) mx_fl_X11_35 g6 rfl g7 (mx_dd dd_X11_remember_0 15 (25, .getfield 35, 3) rfl) ?_
    refine mx_iload_n (pc := 28) 2 (mx_dd dd_X11_remember_0 16 (28, .iload_n 2, 1) rfl) rfl rfl ?_
    refine mx_iconst (pc := 29) (v := (1 : Int32)) (mx_dd dd_X11_remember_0 17 (29, .iconst 1, 1) rfl) (by decide) ?_
    refine mx_isub (pc := 30) (mx_dd dd_X11_remember_0 18 (30, .isub, 1) rfl) ?_
    refine mx_aload_n (pc := 31) 0 (mx_dd dd_X11_remember_0 19 (31, .aload_n 0, 1) rfl) rfl rfl ?_
    refine mx_getR (pc := 32) mx_fl_X11_35 g6 rfl g7 (mx_dd dd_X11_remember_0 20 (32, .getfield 35, 3) rfl) ?_
    refine mx_iload_n (pc := 35) 2 (mx_dd dd_X11_remember_0 21 (35, .iload_n 2, 1) rfl) rfl rfl ?_
    obtain ⟨g8, P⟩ := P
    obtain ⟨g9, P⟩ := P
    refine mx_aaldO (pc := 36) g8 (by decide) g9 (mx_dd dd_X11_remember_0 22 (36, .aaload, 1) rfl) ?_
    obtain ⟨g10, P⟩ := P
    obtain ⟨g11, P⟩ := P
    refine mx_aastO (pc := 37) g8 (by decide) g11 (by decide) rfl g10 (mx_dd dd_X11_remember_0 23 (37, .aastore, 1) rfl) ?_
    have P := P _ rfl
    refine mx_iinc (pc := 38) 2 (mx_dd dd_X11_remember_0 24 (38, .iinc 2 1, 3) rfl) rfl (mx_kadd (by decide : Int32.ofInt 1 = (1 : Int32))) (by decide) rfl ?_
    refine mx_stoK [0, 1] (lv2 := [(0, _), (1, _)]) rfl ⟨⟨rfl, .inl rfl⟩, ⟨⟨rfl, .inr mx_catO⟩, trivial⟩⟩ ?_
    refine mx_goto (pc := 41) 18 (mx_dd dd_X11_remember_0 25 (41, .goto (-23), 3) rfl) rfl ?_
    refine mx_sel [1, 2, 0] rfl ?_
    exact P
theorem b_X11_remember_56 {d : Nat} {h : mxH} {Q : mxRes → mxH → Prop} (x0 : Nat)
    (P : hpK h x0 = 11 ∧ (((hpI h x0 7) < 0 → mx_SX mY_X11_remember d 89 [(0, .ref x0)] [] h Q) ∧ (¬ (hpI h x0 7) < 0 → ∃ b1 : Nat, hpR h x0 6 = some b1 ∧ hpK h b1 = 20 ∧ vp_in (hpI h x0 7) (hpZ h b1) ∧ ∃ b2 : Nat, hpR h x0 5 = some b2 ∧ ∃ b3 : Nat, hpR h b1 (hpI h x0 7).toNatClampNeg = some b3 ∧ 1 ≤ d ∧ hpK h b3 = 10 ∧ mx_SM mY_X10_copyFrom (d - 1) [.ref b3, .ref b2] h (mx_KV (fun h1 => hpK h1 x0 = 11 ∧ ∀ h2 : mxH, h2 = hsI h1 x0 7 ((hpI h1 x0 7) + (1 : Int32)) → mx_SX mY_X11_remember d 89 [(0, .ref x0)] [] h2 Q) (mx_XX mY_X11_remember Q))))) : mx_SX mY_X11_remember d 56 [(0, .ref x0)] [] h Q := by
  refine mx_aload_n (pc := 56) 0 (mx_dd dd_X11_remember_0 34 (56, .aload_n 0, 1) rfl) rfl rfl ?_
  obtain ⟨g1, P⟩ := P
  refine mx_getI (pc := 57) mx_fl_X11_86 g1 rfl (mx_dd dd_X11_remember_0 35 (57, .getfield 86, 3) rfl) ?_
  refine mx_if_lt (pc := 60) 89 (mx_dd dd_X11_remember_0 36 (60, .ifCond .lt 29, 3) rfl) rfl (fun c60 => ?_) (fun c60 => ?_)
  · have P := P.1 c60
    exact P
  · have P := P.2 c60
    refine mx_aload_n (pc := 63) 0 (mx_dd dd_X11_remember_0 37 (63, .aload_n 0, 1) rfl) rfl rfl ?_
    obtain ⟨b1, g2, P⟩ := P
    refine mx_getR (pc := 64) mx_fl_X11_35 g1 rfl g2 (mx_dd dd_X11_remember_0 38 (64, .getfield 35, 3) rfl) ?_
    refine mx_aload_n (pc := 67) 0 (mx_dd dd_X11_remember_0 39 (67, .aload_n 0, 1) rfl) rfl rfl ?_
    refine mx_getI (pc := 68) mx_fl_X11_86 g1 rfl (mx_dd dd_X11_remember_1 0 (68, .getfield 86, 3) rfl) ?_
    obtain ⟨g3, P⟩ := P
    obtain ⟨g4, P⟩ := P
    refine mx_aaldO (pc := 71) g3 (by decide) g4 (mx_dd dd_X11_remember_1 1 (71, .aaload, 1) rfl) ?_
    refine mx_aload_n (pc := 72) 0 (mx_dd dd_X11_remember_1 2 (72, .aload_n 0, 1) rfl) rfl rfl ?_
    obtain ⟨b2, g5, P⟩ := P
    refine mx_getR (pc := 73) mx_fl_X11_31 g1 rfl g5 (mx_dd dd_X11_remember_1 3 (73, .getfield 31, 3) rfl) ?_
    obtain ⟨b3, g6, P⟩ := P
    refine mx_deref1 g6 ?_
    obtain ⟨g7, P⟩ := P
    obtain ⟨g8, P⟩ := P
    refine mx_cVV (pc := 76) (Y := mY_X10_copyFrom) (As := [.ref _]) mx_ml_X11_131 mx_y_X10_copyFrom rfl g8 (by decide) rfl (by decide) rfl (mx_dd dd_X11_remember_1 4 (76, .invokevirtual 131, 3) rfl) g7 (by decide) P (fun h1 P => ?_)
    refine mx_aload_n (pc := 79) 0 (mx_dd dd_X11_remember_1 5 (79, .aload_n 0, 1) rfl) rfl rfl ?_
    refine mx_dup (pc := 80) (mx_dd dd_X11_remember_1 6 (80, .dup, 1) rfl) rfl ?_
    obtain ⟨g9, P⟩ := P
    refine mx_getI (pc := 81) mx_fl_X11_86 g9 rfl (mx_dd dd_X11_remember_1 7 (81, .getfield 86, 3) rfl) ?_
    refine mx_iconst (pc := 84) (v := (1 : Int32)) (mx_dd dd_X11_remember_1 8 (84, .iconst 1, 1) rfl) (by decide) ?_
    refine mx_iadd (pc := 85) (mx_dd dd_X11_remember_1 9 (85, .iadd, 1) rfl) ?_
    refine mx_putI (pc := 86) mx_fl_X11_86 g9 rfl (.inl rfl) rfl rfl (mx_dd dd_X11_remember_1 10 (86, .putfield 86, 3) rfl) ?_
    have P := P _ rfl
    exact P
theorem b_X11_remember_89 {d : Nat} {h : mxH} {Q : mxRes → mxH → Prop} (x0 : Nat)
    (P : hpK h x0 = 11 ∧ ∃ b1 : Nat, hpR h x0 4 = some b1 ∧ 1 ≤ d ∧ hpK h b1 = 3 ∧ mx_SM mY_X3_forgetMarks (d - 1) [.ref b1] h (mx_KV (fun h1 => mx_SX mY_X11_remember d 98 [(0, .ref x0), (1, .int (0 : Int32))] [] h1 Q) (mx_XX mY_X11_remember Q))) : mx_SX mY_X11_remember d 89 [(0, .ref x0)] [] h Q := by
  refine mx_aload_n (pc := 89) 0 (mx_dd dd_X11_remember_1 11 (89, .aload_n 0, 1) rfl) rfl rfl ?_
  obtain ⟨g1, P⟩ := P
  obtain ⟨b1, g2, P⟩ := P
  refine mx_getR (pc := 90) mx_fl_X11_19 g1 rfl g2 (mx_dd dd_X11_remember_1 12 (90, .getfield 19, 3) rfl) ?_
  obtain ⟨g3, P⟩ := P
  obtain ⟨g4, P⟩ := P
  refine mx_cVV (pc := 93) (Y := mY_X3_forgetMarks) (As := []) mx_ml_X11_135 mx_y_X3_forgetMarks rfl g4 (by decide) rfl (by decide) rfl (mx_dd dd_X11_remember_1 13 (93, .invokevirtual 135, 3) rfl) g3 (by decide) P (fun h1 P => ?_)
  refine mx_iconst (pc := 96) (v := (0 : Int32)) (mx_dd dd_X11_remember_1 14 (96, .iconst 0, 1) rfl) (by decide) ?_
  refine mx_istore_n (pc := 97) (mx_dd dd_X11_remember_1 15 (97, .istore_n 1, 1) rfl) rfl (by decide) (lv' := [(1, _), (0, _)]) rfl ?_
  refine mx_sel [1, 0] rfl ?_
  exact P
theorem b_X11_remember_98 {d : Nat} {h : mxH} {Q : mxRes → mxH → Prop} (x0 : Nat) (x1 : Int32)
    (P : hpK h x0 = 11 ∧ (((hpI h x0 7) ≤ x1 → Q (.inl none) h) ∧ (¬ (hpI h x0 7) ≤ x1 → (((6 : Int32) ≤ x1 → Q (.inl none) h) ∧ (¬ (6 : Int32) ≤ x1 → ∃ b1 : Nat, hpR h x0 6 = some b1 ∧ hpK h b1 = 20 ∧ vp_in x1 (hpZ h b1) ∧ ∃ b2 : Nat, hpR h x0 4 = some b2 ∧ ∃ b3 : Nat, hpR h b1 x1.toNatClampNeg = some b3 ∧ 1 ≤ d ∧ hpK h b3 = 10 ∧ mx_SM mY_X10_markLines (d - 1) [.ref b3, .ref b2] h (mx_KV (fun h1 => mx_SX mY_X11_remember d 98 [(0, .ref x0), (1, .int (x1 + (1 : Int32)))] [] h1 Q) (mx_XX mY_X11_remember Q))))))) : mx_SX mY_X11_remember d 98 [(0, .ref x0), (1, .int x1)] [] h Q := by
  refine mx_iload_n (pc := 98) 1 (mx_dd dd_X11_remember_1 16 (98, .iload_n 1, 1) rfl) rfl rfl ?_
  refine mx_aload_n (pc := 99) 0 (mx_dd dd_X11_remember_1 17 (99, .aload_n 0, 1) rfl) rfl rfl ?_
  obtain ⟨g1, P⟩ := P
  refine mx_getI (pc := 100) mx_fl_X11_86 g1 rfl (mx_dd dd_X11_remember_1 18 (100, .getfield 86, 3) rfl) ?_
  refine mx_icmp_ge (pc := 103) 131 (mx_dd dd_X11_remember_1 19 (103, .if_icmp .ge 28, 3) rfl) rfl (fun c103 => ?_) (fun c103 => ?_)
  · have P := P.1 c103
    exact mx_return (pc := 131) (mx_dd dd_X11_remember_1 32 (131, .return_, 1) rfl) rfl P
  · have P := P.2 c103
    refine mx_iload_n (pc := 106) 1 (mx_dd dd_X11_remember_1 20 (106, .iload_n 1, 1) rfl) rfl rfl ?_
    refine mx_bipush (pc := 107) (v := (6 : Int32)) (mx_dd dd_X11_remember_1 21 (107, .bipush 6, 2) rfl) (by decide) ?_
    refine mx_icmp_ge (pc := 109) 131 (mx_dd dd_X11_remember_1 22 (109, .if_icmp .ge 22, 3) rfl) rfl (fun c109 => ?_) (fun c109 => ?_)
    · have P := P.1 c109
      exact mx_return (pc := 131) (mx_dd dd_X11_remember_1 32 (131, .return_, 1) rfl) rfl P
    · have P := P.2 c109
      refine mx_aload_n (pc := 112) 0 (mx_dd dd_X11_remember_1 23 (112, .aload_n 0, 1) rfl) rfl rfl ?_
      obtain ⟨b1, g2, P⟩ := P
      refine mx_getR (pc := 113) mx_fl_X11_35 g1 rfl g2 (mx_dd dd_X11_remember_1 24 (113, .getfield 35, 3) rfl) ?_
      refine mx_iload_n (pc := 116) 1 (mx_dd dd_X11_remember_1 25 (116, .iload_n 1, 1) rfl) rfl rfl ?_
      obtain ⟨g3, P⟩ := P
      obtain ⟨g4, P⟩ := P
      refine mx_aaldO (pc := 117) g3 (by decide) g4 (mx_dd dd_X11_remember_1 26 (117, .aaload, 1) rfl) ?_
      refine mx_aload_n (pc := 118) 0 (mx_dd dd_X11_remember_1 27 (118, .aload_n 0, 1) rfl) rfl rfl ?_
      obtain ⟨b2, g5, P⟩ := P
      refine mx_getR (pc := 119) mx_fl_X11_19 g1 rfl g5 (mx_dd dd_X11_remember_1 28 (119, .getfield 19, 3) rfl) ?_
      obtain ⟨b3, g6, P⟩ := P
      refine mx_deref1 g6 ?_
      obtain ⟨g7, P⟩ := P
      obtain ⟨g8, P⟩ := P
      refine mx_cVV (pc := 122) (Y := mY_X10_markLines) (As := [.ref _]) mx_ml_X11_138 mx_y_X10_markLines rfl g8 (by decide) rfl (by decide) rfl (mx_dd dd_X11_remember_1 29 (122, .invokevirtual 138, 3) rfl) g7 (by decide) P (fun h1 P => ?_)
      refine mx_iinc (pc := 125) 1 (mx_dd dd_X11_remember_1 30 (125, .iinc 1 1, 3) rfl) rfl (mx_kadd (by decide : Int32.ofInt 1 = (1 : Int32))) (by decide) (lv' := [(1, _), (0, _)]) rfl ?_
      refine mx_goto (pc := 128) 98 (mx_dd dd_X11_remember_1 31 (128, .goto (-30), 3) rfl) rfl ?_
      refine mx_sel [1, 0] rfl ?_
      exact P
theorem b_X11_status {d : Nat} {h : mxH} {Q : mxRes → mxH → Prop} (x0 : Nat)
    (P : hpK h x0 = 11 ∧ ∃ b1 : Nat, hpR h x0 5 = some b1 ∧ hpK h b1 = 10 ∧ ∃ b2 : Nat, hpR h b1 8 = some b2 ∧ hpK h b2 = 8 ∧ Q (.inl (some (.int (hpI h b2 6)))) h) : mx_SM mY_X11_status d [.ref x0] h Q := by
  refine mx_SM_of (by decide) (Nat.le_of_ble_eq_true rfl) ?_
  show mx_SX mY_X11_status d 0 [(0, .ref x0)] [] h Q
  refine mx_aload_n (pc := 0) 0 (mx_dd dd_X11_status 0 (0, .aload_n 0, 1) rfl) rfl rfl ?_
  obtain ⟨g1, P⟩ := P
  obtain ⟨b1, g2, P⟩ := P
  refine mx_getR (pc := 1) mx_fl_X11_31 g1 rfl g2 (mx_dd dd_X11_status 1 (1, .getfield 31, 3) rfl) ?_
  obtain ⟨g3, P⟩ := P
  obtain ⟨b2, g4, P⟩ := P
  refine mx_getR (pc := 4) mx_fl_X11_122 g3 rfl g4 (mx_dd dd_X11_status 2 (4, .getfield 122, 3) rfl) ?_
  obtain ⟨g5, P⟩ := P
  refine mx_getI (pc := 7) mx_fl_X11_126 g5 rfl (mx_dd dd_X11_status 3 (7, .getfield 126, 3) rfl) ?_
  exact mx_ireturn (pc := 10) (mx_dd dd_X11_status 4 (10, .ireturn, 1) rfl) rfl rfl P
theorem b_X11_isStopped {d : Nat} {h : mxH} {Q : mxRes → mxH → Prop} (x0 : Nat)
    (P : hpK h x0 = 11 ∧ ∃ b1 : Nat, hpR h x0 5 = some b1 ∧ hpK h b1 = 10 ∧ (hpI h b1 13 = 0 ∨ hpI h b1 13 = 1) ∧ Q (.inl (some (.int (hpI h b1 13)))) h) : mx_SM mY_X11_isStopped d [.ref x0] h Q := by
  refine mx_SM_of (by decide) (Nat.le_of_ble_eq_true rfl) ?_
  show mx_SX mY_X11_isStopped d 0 [(0, .ref x0)] [] h Q
  refine mx_aload_n (pc := 0) 0 (mx_dd dd_X11_isStopped 0 (0, .aload_n 0, 1) rfl) rfl rfl ?_
  obtain ⟨g1, P⟩ := P
  obtain ⟨b1, g2, P⟩ := P
  refine mx_getR (pc := 1) mx_fl_X11_31 g1 rfl g2 (mx_dd dd_X11_isStopped 1 (1, .getfield 31, 3) rfl) ?_
  obtain ⟨g3, P⟩ := P
  refine mx_getI (pc := 4) mx_fl_X11_142 g3 rfl (mx_dd dd_X11_isStopped 2 (4, .getfield 142, 3) rfl) ?_
  obtain ⟨g4, P⟩ := P
  exact mx_ireturn (pc := 7) (mx_dd dd_X11_isStopped 3 (7, .ireturn, 1) rfl) rfl (mx_nb g4).1 P
theorem b_X11_begun {d : Nat} {h : mxH} {Q : mxRes → mxH → Prop} (x0 : Nat)
    (P : hpK h x0 = 11 ∧ ∃ b1 : Nat, hpR h x0 5 = some b1 ∧ hpK h b1 = 10 ∧ Q (.inl (some (.int (hpI h b1 11)))) h) : mx_SM mY_X11_begun d [.ref x0] h Q := by
  refine mx_SM_of (by decide) (Nat.le_of_ble_eq_true rfl) ?_
  show mx_SX mY_X11_begun d 0 [(0, .ref x0)] [] h Q
  refine mx_aload_n (pc := 0) 0 (mx_dd dd_X11_begun 0 (0, .aload_n 0, 1) rfl) rfl rfl ?_
  obtain ⟨g1, P⟩ := P
  obtain ⟨b1, g2, P⟩ := P
  refine mx_getR (pc := 1) mx_fl_X11_31 g1 rfl g2 (mx_dd dd_X11_begun 1 (1, .getfield 31, 3) rfl) ?_
  obtain ⟨g3, P⟩ := P
  refine mx_getI (pc := 4) mx_fl_X11_146 g3 rfl (mx_dd dd_X11_begun 2 (4, .getfield 146, 3) rfl) ?_
  exact mx_ireturn (pc := 7) (mx_dd dd_X11_begun 3 (7, .ireturn, 1) rfl) rfl rfl P
theorem b_X11_forks {d : Nat} {h : mxH} {Q : mxRes → mxH → Prop} (x0 : Nat)
    (P : hpK h x0 = 11 ∧ ∃ b1 : Nat, hpR h x0 5 = some b1 ∧ hpK h b1 = 10 ∧ Q (.inl (some (.int (hpI h b1 12)))) h) : mx_SM mY_X11_forks d [.ref x0] h Q := by
  refine mx_SM_of (by decide) (Nat.le_of_ble_eq_true rfl) ?_
  show mx_SX mY_X11_forks d 0 [(0, .ref x0)] [] h Q
  refine mx_aload_n (pc := 0) 0 (mx_dd dd_X11_forks 0 (0, .aload_n 0, 1) rfl) rfl rfl ?_
  obtain ⟨g1, P⟩ := P
  obtain ⟨b1, g2, P⟩ := P
  refine mx_getR (pc := 1) mx_fl_X11_31 g1 rfl g2 (mx_dd dd_X11_forks 1 (1, .getfield 31, 3) rfl) ?_
  obtain ⟨g3, P⟩ := P
  refine mx_getI (pc := 4) mx_fl_X11_149 g3 rfl (mx_dd dd_X11_forks 2 (4, .getfield 149, 3) rfl) ?_
  exact mx_ireturn (pc := 7) (mx_dd dd_X11_forks 3 (7, .ireturn, 1) rfl) rfl rfl P
theorem b_X11_jobCount {d : Nat} {h : mxH} {Q : mxRes → mxH → Prop} (x0 : Nat)
    (P : hpK h x0 = 11 ∧ ∃ b1 : Nat, hpR h x0 5 = some b1 ∧ hpK h b1 = 10 ∧ ∃ b2 : Nat, hpR h b1 8 = some b2 ∧ hpK h b2 = 8 ∧ Q (.inl (some (.int (hpI h b2 14)))) h) : mx_SM mY_X11_jobCount d [.ref x0] h Q := by
  refine mx_SM_of (by decide) (Nat.le_of_ble_eq_true rfl) ?_
  show mx_SX mY_X11_jobCount d 0 [(0, .ref x0)] [] h Q
  refine mx_aload_n (pc := 0) 0 (mx_dd dd_X11_jobCount 0 (0, .aload_n 0, 1) rfl) rfl rfl ?_
  obtain ⟨g1, P⟩ := P
  obtain ⟨b1, g2, P⟩ := P
  refine mx_getR (pc := 1) mx_fl_X11_31 g1 rfl g2 (mx_dd dd_X11_jobCount 1 (1, .getfield 31, 3) rfl) ?_
  obtain ⟨g3, P⟩ := P
  obtain ⟨b2, g4, P⟩ := P
  refine mx_getR (pc := 4) mx_fl_X11_122 g3 rfl g4 (mx_dd dd_X11_jobCount 2 (4, .getfield 122, 3) rfl) ?_
  obtain ⟨g5, P⟩ := P
  refine mx_getI (pc := 7) mx_fl_X11_152 g5 rfl (mx_dd dd_X11_jobCount 3 (7, .getfield 152, 3) rfl) ?_
  exact mx_ireturn (pc := 10) (mx_dd dd_X11_jobCount 4 (10, .ireturn, 1) rfl) rfl rfl P
theorem b_X11_jobStatus {d : Nat} {h : mxH} {Q : mxRes → mxH → Prop} (x0 : Nat) (x1 : Int32)
    (P : ((x1 < (1 : Int32) → Q (.inl (some (.int (-1 : Int32)))) h) ∧ (¬ x1 < (1 : Int32) → hpK h x0 = 11 ∧ ∃ b1 : Nat, hpR h x0 5 = some b1 ∧ hpK h b1 = 10 ∧ ∃ b2 : Nat, hpR h b1 8 = some b2 ∧ hpK h b2 = 8 ∧ ((x1 ≤ (hpI h b2 14) → 1 ≤ d ∧ mx_SM mY_X8_statusOfJob (d - 1) [.ref b2, .int (x1 - (1 : Int32))] h (mx_KI (fun v1 h1 => Q (.inl (some (.int v1))) h1) (mx_XX mY_X11_jobStatus Q))) ∧ (¬ x1 ≤ (hpI h b2 14) → Q (.inl (some (.int (-1 : Int32)))) h))))) : mx_SM mY_X11_jobStatus d [.ref x0, .int x1] h Q := by
  refine mx_SM_of (by decide) (Nat.le_of_ble_eq_true rfl) ?_
  show mx_SX mY_X11_jobStatus d 0 [(0, .ref x0), (1, .int x1)] [] h Q
  refine mx_iload_n (pc := 0) 1 (mx_dd dd_X11_jobStatus 0 (0, .iload_n 1, 1) rfl) rfl rfl ?_
  refine mx_iconst (pc := 1) (v := (1 : Int32)) (mx_dd dd_X11_jobStatus 1 (1, .iconst 1, 1) rfl) (by decide) ?_
  refine mx_icmp_lt (pc := 2) 19 (mx_dd dd_X11_jobStatus 2 (2, .if_icmp .lt 17, 3) rfl) rfl (fun c2 => ?_) (fun c2 => ?_)
  · have P := P.1 c2
    refine mx_iconst (pc := 19) (v := (-1 : Int32)) (mx_dd dd_X11_jobStatus 9 (19, .iconst (-1), 1) rfl) (by decide) ?_
    exact mx_ireturn (pc := 20) (mx_dd dd_X11_jobStatus 10 (20, .ireturn, 1) rfl) rfl rfl P
  · have P := P.2 c2
    refine mx_iload_n (pc := 5) 1 (mx_dd dd_X11_jobStatus 3 (5, .iload_n 1, 1) rfl) rfl rfl ?_
    refine mx_aload_n (pc := 6) 0 (mx_dd dd_X11_jobStatus 4 (6, .aload_n 0, 1) rfl) rfl rfl ?_
    obtain ⟨g1, P⟩ := P
    obtain ⟨b1, g2, P⟩ := P
    refine mx_getR (pc := 7) mx_fl_X11_31 g1 rfl g2 (mx_dd dd_X11_jobStatus 5 (7, .getfield 31, 3) rfl) ?_
    obtain ⟨g3, P⟩ := P
    obtain ⟨b2, g4, P⟩ := P
    refine mx_getR (pc := 10) mx_fl_X11_122 g3 rfl g4 (mx_dd dd_X11_jobStatus 6 (10, .getfield 122, 3) rfl) ?_
    obtain ⟨g5, P⟩ := P
    refine mx_getI (pc := 13) mx_fl_X11_152 g5 rfl (mx_dd dd_X11_jobStatus 7 (13, .getfield 152, 3) rfl) ?_
    refine mx_icmp_le (pc := 16) 21 (mx_dd dd_X11_jobStatus 8 (16, .if_icmp .le 5, 3) rfl) rfl (fun c16 => ?_) (fun c16 => ?_)
    · have P := P.1 c16
      refine mx_aload_n (pc := 21) 0 (mx_dd dd_X11_jobStatus 11 (21, .aload_n 0, 1) rfl) rfl rfl ?_
      refine mx_getR (pc := 22) mx_fl_X11_31 g1 rfl g2 (mx_dd dd_X11_jobStatus 12 (22, .getfield 31, 3) rfl) ?_
      refine mx_getR (pc := 25) mx_fl_X11_122 g3 rfl g4 (mx_dd dd_X11_jobStatus 13 (25, .getfield 122, 3) rfl) ?_
      refine mx_iload_n (pc := 28) 1 (mx_dd dd_X11_jobStatus 14 (28, .iload_n 1, 1) rfl) rfl rfl ?_
      refine mx_iconst (pc := 29) (v := (1 : Int32)) (mx_dd dd_X11_jobStatus 15 (29, .iconst 1, 1) rfl) (by decide) ?_
      refine mx_isub (pc := 30) (mx_dd dd_X11_jobStatus 16 (30, .isub, 1) rfl) ?_
      obtain ⟨g6, P⟩ := P
      refine mx_cVI (pc := 31) (Y := mY_X8_statusOfJob) (As := [.int _]) mx_ml_X11_155 mx_y_X8_statusOfJob rfl g5 (by decide) rfl (by decide) rfl (mx_dd dd_X11_jobStatus 17 (31, .invokevirtual 155, 3) rfl) g6 (by decide) P (fun v1 h1 P => ?_)
      exact mx_ireturn (pc := 34) (mx_dd dd_X11_jobStatus 18 (34, .ireturn, 1) rfl) rfl rfl P
    · have P := P.2 c16
      refine mx_iconst (pc := 19) (v := (-1 : Int32)) (mx_dd dd_X11_jobStatus 9 (19, .iconst (-1), 1) rfl) (by decide) ?_
      exact mx_ireturn (pc := 20) (mx_dd dd_X11_jobStatus 10 (20, .ireturn, 1) rfl) rfl rfl P
theorem b_X11_undo {d : Nat} {h : mxH} {Q : mxRes → mxH → Prop} (x0 : Nat)
    (P : hpK h x0 = 11 ∧ (((hpI h x0 7) ≤ 0 → Q (.inl (some (.int (-1 : Int32)))) h) ∧ (¬ (hpI h x0 7) ≤ 0 → (((hpI h x0 7) ≤ (6 : Int32) → ∀ h1 : mxH, h1 = hsI h x0 7 ((hpI h x0 7) - (1 : Int32)) → ∃ b1 : Nat, hpR h1 x0 5 = some b1 ∧ ∃ b2 : Nat, hpR h1 x0 6 = some b2 ∧ hpK h1 b2 = 20 ∧ vp_in (hpI h1 x0 7) (hpZ h1 b2) ∧ ∃ b3 : Nat, hpR h1 b2 (hpI h1 x0 7).toNatClampNeg = some b3 ∧ 1 ≤ d ∧ hpK h1 b1 = 10 ∧ mx_SM mY_X10_copyFrom (d - 1) [.ref b1, .ref b3] h1 (mx_KV (fun h2 => hpK h2 x0 = 11 ∧ Q (.inl (some (.int (hpI h2 x0 7)))) h2) (mx_XX mY_X11_undo Q))) ∧ (¬ (hpI h x0 7) ≤ (6 : Int32) → Q (.inl (some (.int (-1 : Int32)))) h))))) : mx_SM mY_X11_undo d [.ref x0] h Q := by
  refine mx_SM_of (by decide) (Nat.le_of_ble_eq_true rfl) ?_
  show mx_SX mY_X11_undo d 0 [(0, .ref x0)] [] h Q
  refine mx_aload_n (pc := 0) 0 (mx_dd dd_X11_undo 0 (0, .aload_n 0, 1) rfl) rfl rfl ?_
  obtain ⟨g1, P⟩ := P
  refine mx_getI (pc := 1) mx_fl_X11_86 g1 rfl (mx_dd dd_X11_undo 1 (1, .getfield 86, 3) rfl) ?_
  refine mx_if_le (pc := 4) 16 (mx_dd dd_X11_undo 2 (4, .ifCond .le 12, 3) rfl) rfl (fun c4 => ?_) (fun c4 => ?_)
  · have P := P.1 c4
    refine mx_iconst (pc := 16) (v := (-1 : Int32)) (mx_dd dd_X11_undo 7 (16, .iconst (-1), 1) rfl) (by decide) ?_
    exact mx_ireturn (pc := 17) (mx_dd dd_X11_undo 8 (17, .ireturn, 1) rfl) rfl rfl P
  · have P := P.2 c4
    refine mx_aload_n (pc := 7) 0 (mx_dd dd_X11_undo 3 (7, .aload_n 0, 1) rfl) rfl rfl ?_
    refine mx_getI (pc := 8) mx_fl_X11_86 g1 rfl (mx_dd dd_X11_undo 4 (8, .getfield 86, 3) rfl) ?_
    refine mx_bipush (pc := 11) (v := (6 : Int32)) (mx_dd dd_X11_undo 5 (11, .bipush 6, 2) rfl) (by decide) ?_
    refine mx_icmp_le (pc := 13) 18 (mx_dd dd_X11_undo 6 (13, .if_icmp .le 5, 3) rfl) rfl (fun c13 => ?_) (fun c13 => ?_)
    · have P := P.1 c13
      refine mx_aload_n (pc := 18) 0 (mx_dd dd_X11_undo 9 (18, .aload_n 0, 1) rfl) rfl rfl ?_
      refine mx_dup (pc := 19) (mx_dd dd_X11_undo 10 (19, .dup, 1) rfl) rfl ?_
      refine mx_getI (pc := 20) mx_fl_X11_86 g1 rfl (mx_dd dd_X11_undo 11 (20, .getfield 86, 3) rfl) ?_
      refine mx_iconst (pc := 23) (v := (1 : Int32)) (mx_dd dd_X11_undo 12 (23, .iconst 1, 1) rfl) (by decide) ?_
      refine mx_isub (pc := 24) (mx_dd dd_X11_undo 13 (24, .isub, 1) rfl) ?_
      refine mx_putI (pc := 25) mx_fl_X11_86 g1 rfl (.inl rfl) rfl rfl (mx_dd dd_X11_undo 14 (25, .putfield 86, 3) rfl) ?_
      have P := P _ rfl
      refine mx_aload_n (pc := 28) 0 (mx_dd dd_X11_undo 15 (28, .aload_n 0, 1) rfl) rfl rfl ?_
      obtain ⟨b1, g2, P⟩ := P
      refine mx_getR (pc := 29) mx_fl_X11_31 g1 rfl g2 (mx_dd dd_X11_undo 16 (29, .getfield 31, 3) rfl) ?_
      refine mx_aload_n (pc := 32) 0 (mx_dd dd_X11_undo 17 (32, .aload_n 0, 1) rfl) rfl rfl ?_
      obtain ⟨b2, g3, P⟩ := P
      refine mx_getR (pc := 33) mx_fl_X11_35 g1 rfl g3 (mx_dd dd_X11_undo 18 (33, .getfield 35, 3) rfl) ?_
      refine mx_aload_n (pc := 36) 0 (mx_dd dd_X11_undo 19 (36, .aload_n 0, 1) rfl) rfl rfl ?_
      refine mx_getI (pc := 37) mx_fl_X11_86 g1 rfl (mx_dd dd_X11_undo 20 (37, .getfield 86, 3) rfl) ?_
      obtain ⟨g4, P⟩ := P
      obtain ⟨g5, P⟩ := P
      refine mx_aaldO (pc := 40) g4 (by decide) g5 (mx_dd dd_X11_undo 21 (40, .aaload, 1) rfl) ?_
      obtain ⟨b3, g6, P⟩ := P
      refine mx_deref0 g6 ?_
      obtain ⟨g7, P⟩ := P
      obtain ⟨g8, P⟩ := P
      refine mx_cVV (pc := 41) (Y := mY_X10_copyFrom) (As := [.ref _]) mx_ml_X11_131 mx_y_X10_copyFrom rfl g8 (by decide) rfl (by decide) rfl (mx_dd dd_X11_undo 22 (41, .invokevirtual 131, 3) rfl) g7 (by decide) P (fun h2 P => ?_)
      refine mx_aload_n (pc := 44) 0 (mx_dd dd_X11_undo 23 (44, .aload_n 0, 1) rfl) rfl rfl ?_
      obtain ⟨g9, P⟩ := P
      refine mx_getI (pc := 45) mx_fl_X11_86 g9 rfl (mx_dd dd_X11_undo 24 (45, .getfield 86, 3) rfl) ?_
      exact mx_ireturn (pc := 48) (mx_dd dd_X11_undo 25 (48, .ireturn, 1) rfl) rfl rfl P
    · have P := P.2 c13
      refine mx_iconst (pc := 16) (v := (-1 : Int32)) (mx_dd dd_X11_undo 7 (16, .iconst (-1), 1) rfl) (by decide) ?_
      exact mx_ireturn (pc := 17) (mx_dd dd_X11_undo 8 (17, .ireturn, 1) rfl) rfl rfl P
theorem b_X11_undoDepth {d : Nat} {h : mxH} {Q : mxRes → mxH → Prop} (x0 : Nat)
    (P : hpK h x0 = 11 ∧ Q (.inl (some (.int (hpI h x0 7)))) h) : mx_SM mY_X11_undoDepth d [.ref x0] h Q := by
  refine mx_SM_of (by decide) (Nat.le_of_ble_eq_true rfl) ?_
  show mx_SX mY_X11_undoDepth d 0 [(0, .ref x0)] [] h Q
  refine mx_aload_n (pc := 0) 0 (mx_dd dd_X11_undoDepth 0 (0, .aload_n 0, 1) rfl) rfl rfl ?_
  obtain ⟨g1, P⟩ := P
  refine mx_getI (pc := 1) mx_fl_X11_86 g1 rfl (mx_dd dd_X11_undoDepth 1 (1, .getfield 86, 3) rfl) ?_
  exact mx_ireturn (pc := 4) (mx_dd dd_X11_undoDepth 2 (4, .ireturn, 1) rfl) rfl rfl P
theorem b_X11_handleKind {d : Nat} {h : mxH} {Q : mxRes → mxH → Prop} (x0 : Nat) (x1 : Int32)
    (P : ((x1 < 0 → mx_SX mY_X11_handleKind d 10 [] [] h Q) ∧ (¬ x1 < 0 → ((x1 < (10 : Int32) → hpK h x0 = 11 ∧ ∃ b1 : Nat, hpR h x0 5 = some b1 ∧ hpK h b1 = 10 ∧ ∃ b2 : Nat, hpR h b1 8 = some b2 ∧ hpK h b2 = 8 ∧ ∃ b3 : Nat, hpR h b2 3 = some b3 ∧ 1 ≤ d ∧ hpK h b3 = 2 ∧ mx_SM mY_X2_kindOf (d - 1) [.ref b3, .int x1] h (mx_KI (fun v1 h1 => Q (.inl (some (.int v1))) h1) (mx_XX mY_X11_handleKind Q))) ∧ (¬ x1 < (10 : Int32) → mx_SX mY_X11_handleKind d 10 [] [] h Q))))) : mx_SM mY_X11_handleKind d [.ref x0, .int x1] h Q := by
  refine mx_SM_of (by decide) (Nat.le_of_ble_eq_true rfl) ?_
  show mx_SX mY_X11_handleKind d 0 [(0, .ref x0), (1, .int x1)] [] h Q
  refine mx_iload_n (pc := 0) 1 (mx_dd dd_X11_handleKind 0 (0, .iload_n 1, 1) rfl) rfl rfl ?_
  refine mx_if_lt (pc := 1) 10 (mx_dd dd_X11_handleKind 1 (1, .ifCond .lt 9, 3) rfl) rfl (fun c1 => ?_) (fun c1 => ?_)
  · have P := P.1 c1
    refine mx_sel [] rfl ?_
    exact P
  · have P := P.2 c1
    refine mx_iload_n (pc := 4) 1 (mx_dd dd_X11_handleKind 2 (4, .iload_n 1, 1) rfl) rfl rfl ?_
    refine mx_bipush (pc := 5) (v := (10 : Int32)) (mx_dd dd_X11_handleKind 3 (5, .bipush 10, 2) rfl) (by decide) ?_
    refine mx_icmp_lt (pc := 7) 20 (mx_dd dd_X11_handleKind 4 (7, .if_icmp .lt 13, 3) rfl) rfl (fun c7 => ?_) (fun c7 => ?_)
    · have P := P.1 c7
      refine mx_aload_n (pc := 20) 0 (mx_dd dd_X11_handleKind 10 (20, .aload_n 0, 1) rfl) rfl rfl ?_
      obtain ⟨g1, P⟩ := P
      obtain ⟨b1, g2, P⟩ := P
      refine mx_getR (pc := 21) mx_fl_X11_31 g1 rfl g2 (mx_dd dd_X11_handleKind 11 (21, .getfield 31, 3) rfl) ?_
      obtain ⟨g3, P⟩ := P
      obtain ⟨b2, g4, P⟩ := P
      refine mx_getR (pc := 24) mx_fl_X11_122 g3 rfl g4 (mx_dd dd_X11_handleKind 12 (24, .getfield 122, 3) rfl) ?_
      obtain ⟨g5, P⟩ := P
      obtain ⟨b3, g6, P⟩ := P
      refine mx_getR (pc := 27) mx_fl_X11_163 g5 rfl g6 (mx_dd dd_X11_handleKind 13 (27, .getfield 163, 3) rfl) ?_
      refine mx_iload_n (pc := 30) 1 (mx_dd dd_X11_handleKind 14 (30, .iload_n 1, 1) rfl) rfl rfl ?_
      obtain ⟨g7, P⟩ := P
      obtain ⟨g8, P⟩ := P
      refine mx_cVI (pc := 31) (Y := mY_X2_kindOf) (As := [.int _]) mx_ml_X11_167 mx_y_X2_kindOf rfl g8 (by decide) rfl (by decide) rfl (mx_dd dd_X11_handleKind 15 (31, .invokevirtual 167, 3) rfl) g7 (by decide) P (fun v1 h1 P => ?_)
      exact mx_ireturn (pc := 34) (mx_dd dd_X11_handleKind 16 (34, .ireturn, 1) rfl) rfl rfl P
    · have P := P.2 c7
      refine mx_sel [] rfl ?_
      exact P
theorem b_X11_handleKind_10 {d : Nat} {h : mxH} {Q : mxRes → mxH → Prop} 
    (P : 12 ≤ d ∧ Q (.inr "java/lang/IndexOutOfBoundsException") (hth h)) : mx_SX mY_X11_handleKind d 10 [] [] h Q := by
  obtain ⟨g1, P⟩ := P
  exact mx_th_X11_handleKind_10 g1 P
theorem b_X11_variableCount {d : Nat} {h : mxH} {Q : mxRes → mxH → Prop} (x0 : Nat)
    (P : hpK h x0 = 11 ∧ ∃ b1 : Nat, hpR h x0 5 = some b1 ∧ hpK h b1 = 10 ∧ ∃ b2 : Nat, hpR h b1 8 = some b2 ∧ hpK h b2 = 8 ∧ ∃ b3 : Nat, hpR h b2 0 = some b3 ∧ hpK h b3 = 9 ∧ Q (.inl (some (.int (hpI h b3 2)))) h) : mx_SM mY_X11_variableCount d [.ref x0] h Q := by
  refine mx_SM_of (by decide) (Nat.le_of_ble_eq_true rfl) ?_
  show mx_SX mY_X11_variableCount d 0 [(0, .ref x0)] [] h Q
  refine mx_aload_n (pc := 0) 0 (mx_dd dd_X11_variableCount 0 (0, .aload_n 0, 1) rfl) rfl rfl ?_
  obtain ⟨g1, P⟩ := P
  obtain ⟨b1, g2, P⟩ := P
  refine mx_getR (pc := 1) mx_fl_X11_31 g1 rfl g2 (mx_dd dd_X11_variableCount 1 (1, .getfield 31, 3) rfl) ?_
  obtain ⟨g3, P⟩ := P
  obtain ⟨b2, g4, P⟩ := P
  refine mx_getR (pc := 4) mx_fl_X11_122 g3 rfl g4 (mx_dd dd_X11_variableCount 2 (4, .getfield 122, 3) rfl) ?_
  obtain ⟨g5, P⟩ := P
  obtain ⟨b3, g6, P⟩ := P
  refine mx_getR (pc := 7) mx_fl_X11_172 g5 rfl g6 (mx_dd dd_X11_variableCount 3 (7, .getfield 172, 3) rfl) ?_
  obtain ⟨g7, P⟩ := P
  refine mx_getI (pc := 10) mx_fl_X11_176 g7 rfl (mx_dd dd_X11_variableCount 4 (10, .getfield 176, 3) rfl) ?_
  exact mx_ireturn (pc := 13) (mx_dd dd_X11_variableCount 5 (13, .ireturn, 1) rfl) rfl rfl P
theorem b_X11_isSet {d : Nat} {h : mxH} {Q : mxRes → mxH → Prop} (x0 : Nat) (x1 : Int64)
    (P : hpK h x0 = 11 ∧ ∃ b1 : Nat, hpR h x0 5 = some b1 ∧ hpK h b1 = 10 ∧ ∃ b2 : Nat, hpR h b1 8 = some b2 ∧ hpK h b2 = 8 ∧ ∃ b3 : Nat, hpR h b2 0 = some b3 ∧ 1 ≤ d ∧ hpK h b3 = 9 ∧ mx_SM mY_X9_find (d - 1) [.ref b3, .long x1] h (mx_KI (fun v1 h1 => ((v1 < 0 → Q (.inl (some (.int (0 : Int32)))) h1) ∧ (¬ v1 < 0 → Q (.inl (some (.int (1 : Int32)))) h1))) (mx_XX mY_X11_isSet Q))) : mx_SM mY_X11_isSet d [.ref x0, .long x1] h Q := by
  refine mx_SM_of (by decide) (Nat.le_of_ble_eq_true rfl) ?_
  show mx_SX mY_X11_isSet d 0 [(0, .ref x0), (1, .long x1)] [] h Q
  refine mx_aload_n (pc := 0) 0 (mx_dd dd_X11_isSet 0 (0, .aload_n 0, 1) rfl) rfl rfl ?_
  obtain ⟨g1, P⟩ := P
  obtain ⟨b1, g2, P⟩ := P
  refine mx_getR (pc := 1) mx_fl_X11_31 g1 rfl g2 (mx_dd dd_X11_isSet 1 (1, .getfield 31, 3) rfl) ?_
  obtain ⟨g3, P⟩ := P
  obtain ⟨b2, g4, P⟩ := P
  refine mx_getR (pc := 4) mx_fl_X11_122 g3 rfl g4 (mx_dd dd_X11_isSet 2 (4, .getfield 122, 3) rfl) ?_
  obtain ⟨g5, P⟩ := P
  obtain ⟨b3, g6, P⟩ := P
  refine mx_getR (pc := 7) mx_fl_X11_172 g5 rfl g6 (mx_dd dd_X11_isSet 3 (7, .getfield 172, 3) rfl) ?_
  refine mx_lload_n (pc := 10) 1 (mx_dd dd_X11_isSet 4 (10, .lload_n 1, 1) rfl) rfl rfl ?_
  obtain ⟨g7, P⟩ := P
  obtain ⟨g8, P⟩ := P
  refine mx_cVI (pc := 11) (Y := mY_X9_find) (As := [.long _]) mx_ml_X11_181 mx_y_X9_find rfl g8 (by decide) rfl (by decide) rfl (mx_dd dd_X11_isSet 5 (11, .invokevirtual 181, 3) rfl) g7 (by decide) P (fun v1 h1 P => ?_)
  refine mx_if_lt (pc := 14) 21 (mx_dd dd_X11_isSet 6 (14, .ifCond .lt 7, 3) rfl) rfl (fun c14 => ?_) (fun c14 => ?_)
  · have P := P.1 c14
    refine mx_iconst (pc := 21) (v := (0 : Int32)) (mx_dd dd_X11_isSet 9 (21, .iconst 0, 1) rfl) (by decide) ?_
    exact mx_ireturn (pc := 22) (mx_dd dd_X11_isSet 10 (22, .ireturn, 1) rfl) rfl rfl P
  · have P := P.2 c14
    refine mx_iconst (pc := 17) (v := (1 : Int32)) (mx_dd dd_X11_isSet 7 (17, .iconst 1, 1) rfl) (by decide) ?_
    refine mx_goto (pc := 18) 22 (mx_dd dd_X11_isSet 8 (18, .goto 4, 3) rfl) rfl ?_
    exact mx_ireturn (pc := 22) (mx_dd dd_X11_isSet 10 (22, .ireturn, 1) rfl) rfl rfl P
theorem b_X11_functionCount {d : Nat} {h : mxH} {Q : mxRes → mxH → Prop} (x0 : Nat)
    (P : hpK h x0 = 11 ∧ ∃ b1 : Nat, hpR h x0 5 = some b1 ∧ hpK h b1 = 10 ∧ ∃ b2 : Nat, hpR h b1 8 = some b2 ∧ hpK h b2 = 8 ∧ ∃ b3 : Nat, hpR h b2 1 = some b3 ∧ hpK h b3 = 9 ∧ Q (.inl (some (.int (hpI h b3 2)))) h) : mx_SM mY_X11_functionCount d [.ref x0] h Q := by
  refine mx_SM_of (by decide) (Nat.le_of_ble_eq_true rfl) ?_
  show mx_SX mY_X11_functionCount d 0 [(0, .ref x0)] [] h Q
  refine mx_aload_n (pc := 0) 0 (mx_dd dd_X11_functionCount 0 (0, .aload_n 0, 1) rfl) rfl rfl ?_
  obtain ⟨g1, P⟩ := P
  obtain ⟨b1, g2, P⟩ := P
  refine mx_getR (pc := 1) mx_fl_X11_31 g1 rfl g2 (mx_dd dd_X11_functionCount 1 (1, .getfield 31, 3) rfl) ?_
  obtain ⟨g3, P⟩ := P
  obtain ⟨b2, g4, P⟩ := P
  refine mx_getR (pc := 4) mx_fl_X11_122 g3 rfl g4 (mx_dd dd_X11_functionCount 2 (4, .getfield 122, 3) rfl) ?_
  obtain ⟨g5, P⟩ := P
  obtain ⟨b3, g6, P⟩ := P
  refine mx_getR (pc := 7) mx_fl_X11_185 g5 rfl g6 (mx_dd dd_X11_functionCount 3 (7, .getfield 185, 3) rfl) ?_
  obtain ⟨g7, P⟩ := P
  refine mx_getI (pc := 10) mx_fl_X11_176 g7 rfl (mx_dd dd_X11_functionCount 4 (10, .getfield 176, 3) rfl) ?_
  exact mx_ireturn (pc := 13) (mx_dd dd_X11_functionCount 5 (13, .ireturn, 1) rfl) rfl rfl P
theorem b_X11_isDefined {d : Nat} {h : mxH} {Q : mxRes → mxH → Prop} (x0 : Nat) (x1 : Int64)
    (P : hpK h x0 = 11 ∧ ∃ b1 : Nat, hpR h x0 5 = some b1 ∧ hpK h b1 = 10 ∧ ∃ b2 : Nat, hpR h b1 8 = some b2 ∧ hpK h b2 = 8 ∧ ∃ b3 : Nat, hpR h b2 1 = some b3 ∧ 1 ≤ d ∧ hpK h b3 = 9 ∧ mx_SM mY_X9_find (d - 1) [.ref b3, .long x1] h (mx_KI (fun v1 h1 => ((v1 < 0 → Q (.inl (some (.int (0 : Int32)))) h1) ∧ (¬ v1 < 0 → Q (.inl (some (.int (1 : Int32)))) h1))) (mx_XX mY_X11_isDefined Q))) : mx_SM mY_X11_isDefined d [.ref x0, .long x1] h Q := by
  refine mx_SM_of (by decide) (Nat.le_of_ble_eq_true rfl) ?_
  show mx_SX mY_X11_isDefined d 0 [(0, .ref x0), (1, .long x1)] [] h Q
  refine mx_aload_n (pc := 0) 0 (mx_dd dd_X11_isDefined 0 (0, .aload_n 0, 1) rfl) rfl rfl ?_
  obtain ⟨g1, P⟩ := P
  obtain ⟨b1, g2, P⟩ := P
  refine mx_getR (pc := 1) mx_fl_X11_31 g1 rfl g2 (mx_dd dd_X11_isDefined 1 (1, .getfield 31, 3) rfl) ?_
  obtain ⟨g3, P⟩ := P
  obtain ⟨b2, g4, P⟩ := P
  refine mx_getR (pc := 4) mx_fl_X11_122 g3 rfl g4 (mx_dd dd_X11_isDefined 2 (4, .getfield 122, 3) rfl) ?_
  obtain ⟨g5, P⟩ := P
  obtain ⟨b3, g6, P⟩ := P
  refine mx_getR (pc := 7) mx_fl_X11_185 g5 rfl g6 (mx_dd dd_X11_isDefined 3 (7, .getfield 185, 3) rfl) ?_
  refine mx_lload_n (pc := 10) 1 (mx_dd dd_X11_isDefined 4 (10, .lload_n 1, 1) rfl) rfl rfl ?_
  obtain ⟨g7, P⟩ := P
  obtain ⟨g8, P⟩ := P
  refine mx_cVI (pc := 11) (Y := mY_X9_find) (As := [.long _]) mx_ml_X11_181 mx_y_X9_find rfl g8 (by decide) rfl (by decide) rfl (mx_dd dd_X11_isDefined 5 (11, .invokevirtual 181, 3) rfl) g7 (by decide) P (fun v1 h1 P => ?_)
  refine mx_if_lt (pc := 14) 21 (mx_dd dd_X11_isDefined 6 (14, .ifCond .lt 7, 3) rfl) rfl (fun c14 => ?_) (fun c14 => ?_)
  · have P := P.1 c14
    refine mx_iconst (pc := 21) (v := (0 : Int32)) (mx_dd dd_X11_isDefined 9 (21, .iconst 0, 1) rfl) (by decide) ?_
    exact mx_ireturn (pc := 22) (mx_dd dd_X11_isDefined 10 (22, .ireturn, 1) rfl) rfl rfl P
  · have P := P.2 c14
    refine mx_iconst (pc := 17) (v := (1 : Int32)) (mx_dd dd_X11_isDefined 7 (17, .iconst 1, 1) rfl) (by decide) ?_
    refine mx_goto (pc := 18) 22 (mx_dd dd_X11_isDefined 8 (18, .goto 4, 3) rfl) rfl ?_
    exact mx_ireturn (pc := 22) (mx_dd dd_X11_isDefined 10 (22, .ireturn, 1) rfl) rfl rfl P
theorem b_X11_actionOf {d : Nat} {h : mxH} {Q : mxRes → mxH → Prop} (x0 : Nat) (x1 : Int32)
    (P : ((x1 < 0 → mx_SX mY_X11_actionOf d 9 [] [] h Q) ∧ (¬ x1 < 0 → ((x1 < (4 : Int32) → hpK h x0 = 11 ∧ ∃ b1 : Nat, hpR h x0 5 = some b1 ∧ hpK h b1 = 10 ∧ ∃ b2 : Nat, hpR h b1 8 = some b2 ∧ hpK h b2 = 8 ∧ ∃ b3 : Nat, hpR h b2 2 = some b3 ∧ hpK h b3 = 15 ∧ vp_in x1 (hpZ h b3) ∧ Q (.inl (some (.long (hpL h b3 x1.toNatClampNeg)))) h) ∧ (¬ x1 < (4 : Int32) → mx_SX mY_X11_actionOf d 9 [] [] h Q))))) : mx_SM mY_X11_actionOf d [.ref x0, .int x1] h Q := by
  refine mx_SM_of (by decide) (Nat.le_of_ble_eq_true rfl) ?_
  show mx_SX mY_X11_actionOf d 0 [(0, .ref x0), (1, .int x1)] [] h Q
  refine mx_iload_n (pc := 0) 1 (mx_dd dd_X11_actionOf 0 (0, .iload_n 1, 1) rfl) rfl rfl ?_
  refine mx_if_lt (pc := 1) 9 (mx_dd dd_X11_actionOf 1 (1, .ifCond .lt 8, 3) rfl) rfl (fun c1 => ?_) (fun c1 => ?_)
  · have P := P.1 c1
    refine mx_sel [] rfl ?_
    exact P
  · have P := P.2 c1
    refine mx_iload_n (pc := 4) 1 (mx_dd dd_X11_actionOf 2 (4, .iload_n 1, 1) rfl) rfl rfl ?_
    refine mx_iconst (pc := 5) (v := (4 : Int32)) (mx_dd dd_X11_actionOf 3 (5, .iconst 4, 1) rfl) (by decide) ?_
    refine mx_icmp_lt (pc := 6) 19 (mx_dd dd_X11_actionOf 4 (6, .if_icmp .lt 13, 3) rfl) rfl (fun c6 => ?_) (fun c6 => ?_)
    · have P := P.1 c6
      refine mx_aload_n (pc := 19) 0 (mx_dd dd_X11_actionOf 10 (19, .aload_n 0, 1) rfl) rfl rfl ?_
      obtain ⟨g1, P⟩ := P
      obtain ⟨b1, g2, P⟩ := P
      refine mx_getR (pc := 20) mx_fl_X11_31 g1 rfl g2 (mx_dd dd_X11_actionOf 11 (20, .getfield 31, 3) rfl) ?_
      obtain ⟨g3, P⟩ := P
      obtain ⟨b2, g4, P⟩ := P
      refine mx_getR (pc := 23) mx_fl_X11_122 g3 rfl g4 (mx_dd dd_X11_actionOf 12 (23, .getfield 122, 3) rfl) ?_
      obtain ⟨g5, P⟩ := P
      obtain ⟨b3, g6, P⟩ := P
      refine mx_getR (pc := 26) mx_fl_X11_190 g5 rfl g6 (mx_dd dd_X11_actionOf 13 (26, .getfield 190, 3) rfl) ?_
      refine mx_iload_n (pc := 29) 1 (mx_dd dd_X11_actionOf 14 (29, .iload_n 1, 1) rfl) rfl rfl ?_
      obtain ⟨g7, P⟩ := P
      obtain ⟨g8, P⟩ := P
      refine mx_lald (pc := 30) g7 g8 (mx_dd dd_X11_actionOf 15 (30, .laload, 1) rfl) ?_
      exact mx_lreturn (pc := 31) (mx_dd dd_X11_actionOf 16 (31, .lreturn, 1) rfl) rfl P
    · have P := P.2 c6
      refine mx_sel [] rfl ?_
      exact P
theorem b_X11_actionOf_9 {d : Nat} {h : mxH} {Q : mxRes → mxH → Prop} 
    (P : 12 ≤ d ∧ Q (.inr "java/lang/IndexOutOfBoundsException") (hth h)) : mx_SX mY_X11_actionOf d 9 [] [] h Q := by
  obtain ⟨g1, P⟩ := P
  exact mx_th_X11_actionOf_9 g1 P
theorem b_X11_isPipefail {d : Nat} {h : mxH} {Q : mxRes → mxH → Prop} (x0 : Nat)
    (P : hpK h x0 = 11 ∧ ∃ b1 : Nat, hpR h x0 5 = some b1 ∧ hpK h b1 = 10 ∧ ∃ b2 : Nat, hpR h b1 8 = some b2 ∧ hpK h b2 = 8 ∧ (hpI h b2 4 = 0 ∨ hpI h b2 4 = 1) ∧ Q (.inl (some (.int (hpI h b2 4)))) h) : mx_SM mY_X11_isPipefail d [.ref x0] h Q := by
  refine mx_SM_of (by decide) (Nat.le_of_ble_eq_true rfl) ?_
  show mx_SX mY_X11_isPipefail d 0 [(0, .ref x0)] [] h Q
  refine mx_aload_n (pc := 0) 0 (mx_dd dd_X11_isPipefail 0 (0, .aload_n 0, 1) rfl) rfl rfl ?_
  obtain ⟨g1, P⟩ := P
  obtain ⟨b1, g2, P⟩ := P
  refine mx_getR (pc := 1) mx_fl_X11_31 g1 rfl g2 (mx_dd dd_X11_isPipefail 1 (1, .getfield 31, 3) rfl) ?_
  obtain ⟨g3, P⟩ := P
  obtain ⟨b2, g4, P⟩ := P
  refine mx_getR (pc := 4) mx_fl_X11_122 g3 rfl g4 (mx_dd dd_X11_isPipefail 2 (4, .getfield 122, 3) rfl) ?_
  obtain ⟨g5, P⟩ := P
  refine mx_getI (pc := 7) mx_fl_X11_194 g5 rfl (mx_dd dd_X11_isPipefail 3 (7, .getfield 194, 3) rfl) ?_
  obtain ⟨g6, P⟩ := P
  exact mx_ireturn (pc := 10) (mx_dd dd_X11_isPipefail 4 (10, .ireturn, 1) rfl) rfl (mx_nb g6).1 P
theorem b_X11_fileCount {d : Nat} {h : mxH} {Q : mxRes → mxH → Prop} (x0 : Nat)
    (P : hpK h x0 = 11 ∧ ∃ b1 : Nat, hpR h x0 5 = some b1 ∧ hpK h b1 = 10 ∧ Q (.inl (some (.int (hpI h b1 3)))) h) : mx_SM mY_X11_fileCount d [.ref x0] h Q := by
  refine mx_SM_of (by decide) (Nat.le_of_ble_eq_true rfl) ?_
  show mx_SX mY_X11_fileCount d 0 [(0, .ref x0)] [] h Q
  refine mx_aload_n (pc := 0) 0 (mx_dd dd_X11_fileCount 0 (0, .aload_n 0, 1) rfl) rfl rfl ?_
  obtain ⟨g1, P⟩ := P
  obtain ⟨b1, g2, P⟩ := P
  refine mx_getR (pc := 1) mx_fl_X11_31 g1 rfl g2 (mx_dd dd_X11_fileCount 1 (1, .getfield 31, 3) rfl) ?_
  obtain ⟨g3, P⟩ := P
  refine mx_getI (pc := 4) mx_fl_X11_197 g3 rfl (mx_dd dd_X11_fileCount 2 (4, .getfield 197, 3) rfl) ?_
  exact mx_ireturn (pc := 7) (mx_dd dd_X11_fileCount 3 (7, .ireturn, 1) rfl) rfl rfl P
theorem b_X11_fileNamed {d : Nat} {h : mxH} {Q : mxRes → mxH → Prop} (x0 : Nat) (x1 : Int64)
    (P : hpK h x0 = 11 ∧ ∃ b1 : Nat, hpR h x0 5 = some b1 ∧ 1 ≤ d ∧ hpK h b1 = 10 ∧ mx_SM mY_X10_findFile (d - 1) [.ref b1, .long x1] h (mx_KI (fun v1 h1 => Q (.inl (some (.int v1))) h1) (mx_XX mY_X11_fileNamed Q))) : mx_SM mY_X11_fileNamed d [.ref x0, .long x1] h Q := by
  refine mx_SM_of (by decide) (Nat.le_of_ble_eq_true rfl) ?_
  show mx_SX mY_X11_fileNamed d 0 [(0, .ref x0), (1, .long x1)] [] h Q
  refine mx_aload_n (pc := 0) 0 (mx_dd dd_X11_fileNamed 0 (0, .aload_n 0, 1) rfl) rfl rfl ?_
  obtain ⟨g1, P⟩ := P
  obtain ⟨b1, g2, P⟩ := P
  refine mx_getR (pc := 1) mx_fl_X11_31 g1 rfl g2 (mx_dd dd_X11_fileNamed 1 (1, .getfield 31, 3) rfl) ?_
  refine mx_lload_n (pc := 4) 1 (mx_dd dd_X11_fileNamed 2 (4, .lload_n 1, 1) rfl) rfl rfl ?_
  obtain ⟨g3, P⟩ := P
  obtain ⟨g4, P⟩ := P
  refine mx_cVI (pc := 5) (Y := mY_X10_findFile) (As := [.long _]) mx_ml_X11_200 mx_y_X10_findFile rfl g4 (by decide) rfl (by decide) rfl (mx_dd dd_X11_fileNamed 3 (5, .invokevirtual 200, 3) rfl) g3 (by decide) P (fun v1 h1 P => ?_)
  exact mx_ireturn (pc := 8) (mx_dd dd_X11_fileNamed 4 (8, .ireturn, 1) rfl) rfl rfl P
theorem b_X11_lineCount {d : Nat} {h : mxH} {Q : mxRes → mxH → Prop} (x0 : Nat) (x1 : Int32)
    (P : 1 ≤ d ∧ hpK h x0 = 11 ∧ mx_SM mY_X11_checkFile (d - 1) [.ref x0, .int x1] h (mx_KV (fun h1 => hpK h1 x0 = 11 ∧ ∃ b1 : Nat, hpR h1 x0 5 = some b1 ∧ hpK h1 b1 = 10 ∧ mx_SM mY_X10_fileLength (d - 1) [.ref b1, .int x1] h1 (mx_KI (fun v1 h2 => Q (.inl (some (.int v1))) h2) (mx_XX mY_X11_lineCount Q))) (mx_XX mY_X11_lineCount Q))) : mx_SM mY_X11_lineCount d [.ref x0, .int x1] h Q := by
  refine mx_SM_of (by decide) (Nat.le_of_ble_eq_true rfl) ?_
  show mx_SX mY_X11_lineCount d 0 [(0, .ref x0), (1, .int x1)] [] h Q
  refine mx_aload_n (pc := 0) 0 (mx_dd dd_X11_lineCount 0 (0, .aload_n 0, 1) rfl) rfl rfl ?_
  refine mx_iload_n (pc := 1) 1 (mx_dd dd_X11_lineCount 1 (1, .iload_n 1, 1) rfl) rfl rfl ?_
  obtain ⟨g1, P⟩ := P
  obtain ⟨g2, P⟩ := P
  refine mx_cVV (pc := 2) (Y := mY_X11_checkFile) (As := [.int _]) mx_ml_X11_203 mx_y_X11_checkFile rfl g2 (by decide) rfl (by decide) rfl (mx_dd dd_X11_lineCount 2 (2, .invokevirtual 203, 3) rfl) g1 (by decide) P (fun h1 P => ?_)
  refine mx_aload_n (pc := 5) 0 (mx_dd dd_X11_lineCount 3 (5, .aload_n 0, 1) rfl) rfl rfl ?_
  obtain ⟨g3, P⟩ := P
  obtain ⟨b1, g4, P⟩ := P
  refine mx_getR (pc := 6) mx_fl_X11_31 g3 rfl g4 (mx_dd dd_X11_lineCount 4 (6, .getfield 31, 3) rfl) ?_
  refine mx_iload_n (pc := 9) 1 (mx_dd dd_X11_lineCount 5 (9, .iload_n 1, 1) rfl) rfl rfl ?_
  obtain ⟨g5, P⟩ := P
  refine mx_cVI (pc := 10) (Y := mY_X10_fileLength) (As := [.int _]) mx_ml_X11_206 mx_y_X10_fileLength rfl g5 (by decide) rfl (by decide) rfl (mx_dd dd_X11_lineCount 6 (10, .invokevirtual 206, 3) rfl) g1 (by decide) P (fun v1 h2 P => ?_)
  exact mx_ireturn (pc := 13) (mx_dd dd_X11_lineCount 7 (13, .ireturn, 1) rfl) rfl rfl P
theorem b_X11_checkFile {d : Nat} {h : mxH} {Q : mxRes → mxH → Prop} (x0 : Nat) (x1 : Int32)
    (P : ((x1 < 0 → mx_SX mY_X11_checkFile d 15 [] [] h Q) ∧ (¬ x1 < 0 → hpK h x0 = 11 ∧ ∃ b1 : Nat, hpR h x0 5 = some b1 ∧ hpK h b1 = 10 ∧ ((x1 < (hpI h b1 3) → Q (.inl none) h) ∧ (¬ x1 < (hpI h b1 3) → mx_SX mY_X11_checkFile d 15 [] [] h Q))))) : mx_SM mY_X11_checkFile d [.ref x0, .int x1] h Q := by
  refine mx_SM_of (by decide) (Nat.le_of_ble_eq_true rfl) ?_
  show mx_SX mY_X11_checkFile d 0 [(0, .ref x0), (1, .int x1)] [] h Q
  refine mx_iload_n (pc := 0) 1 (mx_dd dd_X11_checkFile 0 (0, .iload_n 1, 1) rfl) rfl rfl ?_
  refine mx_if_lt (pc := 1) 15 (mx_dd dd_X11_checkFile 1 (1, .ifCond .lt 14, 3) rfl) rfl (fun c1 => ?_) (fun c1 => ?_)
  · have P := P.1 c1
    refine mx_sel [] rfl ?_
    exact P
  · have P := P.2 c1
    refine mx_iload_n (pc := 4) 1 (mx_dd dd_X11_checkFile 2 (4, .iload_n 1, 1) rfl) rfl rfl ?_
    refine mx_aload_n (pc := 5) 0 (mx_dd dd_X11_checkFile 3 (5, .aload_n 0, 1) rfl) rfl rfl ?_
    obtain ⟨g1, P⟩ := P
    obtain ⟨b1, g2, P⟩ := P
    refine mx_getR (pc := 6) mx_fl_X11_31 g1 rfl g2 (mx_dd dd_X11_checkFile 4 (6, .getfield 31, 3) rfl) ?_
    obtain ⟨g3, P⟩ := P
    refine mx_getI (pc := 9) mx_fl_X11_197 g3 rfl (mx_dd dd_X11_checkFile 5 (9, .getfield 197, 3) rfl) ?_
    refine mx_icmp_lt (pc := 12) 25 (mx_dd dd_X11_checkFile 6 (12, .if_icmp .lt 13, 3) rfl) rfl (fun c12 => ?_) (fun c12 => ?_)
    · have P := P.1 c12
      exact mx_return (pc := 25) (mx_dd dd_X11_checkFile 12 (25, .return_, 1) rfl) rfl P
    · have P := P.2 c12
      refine mx_sel [] rfl ?_
      exact P
theorem b_X11_checkFile_15 {d : Nat} {h : mxH} {Q : mxRes → mxH → Prop} 
    (P : 12 ≤ d ∧ Q (.inr "java/lang/IndexOutOfBoundsException") (hth h)) : mx_SX mY_X11_checkFile d 15 [] [] h Q := by
  obtain ⟨g1, P⟩ := P
  exact mx_th_X11_checkFile_15 g1 P
theorem b_X11_outputCount {d : Nat} {h : mxH} {Q : mxRes → mxH → Prop} (x0 : Nat)
    (P : hpK h x0 = 11 ∧ ∃ b1 : Nat, hpR h x0 5 = some b1 ∧ hpK h b1 = 10 ∧ Q (.inl (some (.int (hpI h b1 7)))) h) : mx_SM mY_X11_outputCount d [.ref x0] h Q := by
  refine mx_SM_of (by decide) (Nat.le_of_ble_eq_true rfl) ?_
  show mx_SX mY_X11_outputCount d 0 [(0, .ref x0)] [] h Q
  refine mx_aload_n (pc := 0) 0 (mx_dd dd_X11_outputCount 0 (0, .aload_n 0, 1) rfl) rfl rfl ?_
  obtain ⟨g1, P⟩ := P
  obtain ⟨b1, g2, P⟩ := P
  refine mx_getR (pc := 1) mx_fl_X11_31 g1 rfl g2 (mx_dd dd_X11_outputCount 1 (1, .getfield 31, 3) rfl) ?_
  obtain ⟨g3, P⟩ := P
  refine mx_getI (pc := 4) mx_fl_X11_211 g3 rfl (mx_dd dd_X11_outputCount 2 (4, .getfield 211, 3) rfl) ?_
  exact mx_ireturn (pc := 7) (mx_dd dd_X11_outputCount 3 (7, .ireturn, 1) rfl) rfl rfl P
theorem b_X11_inputCount {d : Nat} {h : mxH} {Q : mxRes → mxH → Prop} (x0 : Nat)
    (P : hpK h x0 = 11 ∧ ∃ b1 : Nat, hpR h x0 5 = some b1 ∧ hpK h b1 = 10 ∧ Q (.inl (some (.int (hpI h b1 5)))) h) : mx_SM mY_X11_inputCount d [.ref x0] h Q := by
  refine mx_SM_of (by decide) (Nat.le_of_ble_eq_true rfl) ?_
  show mx_SX mY_X11_inputCount d 0 [(0, .ref x0)] [] h Q
  refine mx_aload_n (pc := 0) 0 (mx_dd dd_X11_inputCount 0 (0, .aload_n 0, 1) rfl) rfl rfl ?_
  obtain ⟨g1, P⟩ := P
  obtain ⟨b1, g2, P⟩ := P
  refine mx_getR (pc := 1) mx_fl_X11_31 g1 rfl g2 (mx_dd dd_X11_inputCount 1 (1, .getfield 31, 3) rfl) ?_
  obtain ⟨g3, P⟩ := P
  refine mx_getI (pc := 4) mx_fl_X11_95 g3 rfl (mx_dd dd_X11_inputCount 2 (4, .getfield 95, 3) rfl) ?_
  exact mx_ireturn (pc := 7) (mx_dd dd_X11_inputCount 3 (7, .ireturn, 1) rfl) rfl rfl P
theorem b_X11_traceCount {d : Nat} {h : mxH} {Q : mxRes → mxH → Prop} (x0 : Nat)
    (P : hpK h x0 = 11 ∧ ∃ b1 : Nat, hpR h x0 5 = some b1 ∧ 1 ≤ d ∧ hpK h b1 = 10 ∧ mx_SM mY_X10_traceLength (d - 1) [.ref b1] h (mx_KI (fun v1 h1 => Q (.inl (some (.int v1))) h1) (mx_XX mY_X11_traceCount Q))) : mx_SM mY_X11_traceCount d [.ref x0] h Q := by
  refine mx_SM_of (by decide) (Nat.le_of_ble_eq_true rfl) ?_
  show mx_SX mY_X11_traceCount d 0 [(0, .ref x0)] [] h Q
  refine mx_aload_n (pc := 0) 0 (mx_dd dd_X11_traceCount 0 (0, .aload_n 0, 1) rfl) rfl rfl ?_
  obtain ⟨g1, P⟩ := P
  obtain ⟨b1, g2, P⟩ := P
  refine mx_getR (pc := 1) mx_fl_X11_31 g1 rfl g2 (mx_dd dd_X11_traceCount 1 (1, .getfield 31, 3) rfl) ?_
  obtain ⟨g3, P⟩ := P
  obtain ⟨g4, P⟩ := P
  refine mx_cVI (pc := 4) (Y := mY_X10_traceLength) (As := []) mx_ml_X11_214 mx_y_X10_traceLength rfl g4 (by decide) rfl (by decide) rfl (mx_dd dd_X11_traceCount 2 (4, .invokevirtual 214, 3) rfl) g3 (by decide) P (fun v1 h1 P => ?_)
  exact mx_ireturn (pc := 7) (mx_dd dd_X11_traceCount 3 (7, .ireturn, 1) rfl) rfl rfl P
theorem b_X11_traceField {d : Nat} {h : mxH} {Q : mxRes → mxH → Prop} (x0 : Nat) (x1 : Int32) (x2 : Int32)
    (P : ((x1 < 0 → mx_SX mY_X11_traceField d 15 [] [] h Q) ∧ (¬ x1 < 0 → hpK h x0 = 11 ∧ ∃ b1 : Nat, hpR h x0 5 = some b1 ∧ 1 ≤ d ∧ hpK h b1 = 10 ∧ mx_SM mY_X10_traceLength (d - 1) [.ref b1] h (mx_KI (fun v1 h1 => ((x1 < v1 → ((x2 < 0 → mx_SX mY_X11_traceField d 34 [] [] h1 Q) ∧ (¬ x2 < 0 → ((x2 ≤ (2 : Int32) → hpK h1 x0 = 11 ∧ ∃ b2 : Nat, hpR h1 x0 5 = some b2 ∧ hpK h1 b2 = 10 ∧ mx_SM mY_X10_recordField (d - 1) [.ref b2, .int x1, .int x2] h1 (mx_KI (fun v2 h2 => Q (.inl (some (.int v2))) h2) (mx_XX mY_X11_traceField Q))) ∧ (¬ x2 ≤ (2 : Int32) → mx_SX mY_X11_traceField d 34 [] [] h1 Q))))) ∧ (¬ x1 < v1 → mx_SX mY_X11_traceField d 15 [] [] h1 Q))) (mx_XX mY_X11_traceField Q))))) : mx_SM mY_X11_traceField d [.ref x0, .int x1, .int x2] h Q := by
  refine mx_SM_of (by decide) (Nat.le_of_ble_eq_true rfl) ?_
  show mx_SX mY_X11_traceField d 0 [(0, .ref x0), (1, .int x1), (2, .int x2)] [] h Q
  refine mx_iload_n (pc := 0) 1 (mx_dd dd_X11_traceField 0 (0, .iload_n 1, 1) rfl) rfl rfl ?_
  refine mx_if_lt (pc := 1) 15 (mx_dd dd_X11_traceField 1 (1, .ifCond .lt 14, 3) rfl) rfl (fun c1 => ?_) (fun c1 => ?_)
  · have P := P.1 c1
    refine mx_sel [] rfl ?_
    exact P
  · have P := P.2 c1
    refine mx_iload_n (pc := 4) 1 (mx_dd dd_X11_traceField 2 (4, .iload_n 1, 1) rfl) rfl rfl ?_
    refine mx_aload_n (pc := 5) 0 (mx_dd dd_X11_traceField 3 (5, .aload_n 0, 1) rfl) rfl rfl ?_
    obtain ⟨g1, P⟩ := P
    obtain ⟨b1, g2, P⟩ := P
    refine mx_getR (pc := 6) mx_fl_X11_31 g1 rfl g2 (mx_dd dd_X11_traceField 4 (6, .getfield 31, 3) rfl) ?_
    obtain ⟨g3, P⟩ := P
    obtain ⟨g4, P⟩ := P
    refine mx_cVI (pc := 9) (Y := mY_X10_traceLength) (As := []) mx_ml_X11_214 mx_y_X10_traceLength rfl g4 (by decide) rfl (by simp [Value.category]) rfl (mx_dd dd_X11_traceField 5 (9, .invokevirtual 214, 3) rfl) g3 (by decide) P (fun v1 h1 P => ?_)
    refine mx_icmp_lt (pc := 12) 25 (mx_dd dd_X11_traceField 6 (12, .if_icmp .lt 13, 3) rfl) rfl (fun c12 => ?_) (fun c12 => ?_)
    · have P := P.1 c12
      refine mx_iload_n (pc := 25) 2 (mx_dd dd_X11_traceField 12 (25, .iload_n 2, 1) rfl) rfl rfl ?_
      refine mx_if_lt (pc := 26) 34 (mx_dd dd_X11_traceField 13 (26, .ifCond .lt 8, 3) rfl) rfl (fun c26 => ?_) (fun c26 => ?_)
      · have P := P.1 c26
        refine mx_sel [] rfl ?_
        exact P
      · have P := P.2 c26
        refine mx_iload_n (pc := 29) 2 (mx_dd dd_X11_traceField 14 (29, .iload_n 2, 1) rfl) rfl rfl ?_
        refine mx_iconst (pc := 30) (v := (2 : Int32)) (mx_dd dd_X11_traceField 15 (30, .iconst 2, 1) rfl) (by decide) ?_
        refine mx_icmp_le (pc := 31) 44 (mx_dd dd_X11_traceField 16 (31, .if_icmp .le 13, 3) rfl) rfl (fun c31 => ?_) (fun c31 => ?_)
        · have P := P.1 c31
          refine mx_aload_n (pc := 44) 0 (mx_dd dd_X11_traceField 22 (44, .aload_n 0, 1) rfl) rfl rfl ?_
          obtain ⟨g5, P⟩ := P
          obtain ⟨b2, g6, P⟩ := P
          refine mx_getR (pc := 45) mx_fl_X11_31 g5 rfl g6 (mx_dd dd_X11_traceField 23 (45, .getfield 31, 3) rfl) ?_
          refine mx_iload_n (pc := 48) 1 (mx_dd dd_X11_traceField 24 (48, .iload_n 1, 1) rfl) rfl rfl ?_
          refine mx_iload_n (pc := 49) 2 (mx_dd dd_X11_traceField 25 (49, .iload_n 2, 1) rfl) rfl rfl ?_
          obtain ⟨g7, P⟩ := P
          refine mx_cVI (pc := 50) (Y := mY_X10_recordField) (As := [.int _, .int _]) mx_ml_X11_225 mx_y_X10_recordField rfl g7 (by decide) rfl (by decide) rfl (mx_dd dd_X11_traceField 26 (50, .invokevirtual 225, 3) rfl) g3 (by decide) P (fun v2 h2 P => ?_)
          exact mx_ireturn (pc := 53) (mx_dd dd_X11_traceField 27 (53, .ireturn, 1) rfl) rfl rfl P
        · have P := P.2 c31
          refine mx_sel [] rfl ?_
          exact P
    · have P := P.2 c12
      refine mx_sel [] rfl ?_
      exact P
theorem b_X11_traceField_15 {d : Nat} {h : mxH} {Q : mxRes → mxH → Prop} 
    (P : 12 ≤ d ∧ Q (.inr "java/lang/IndexOutOfBoundsException") (hth h)) : mx_SX mY_X11_traceField d 15 [] [] h Q := by
  obtain ⟨g1, P⟩ := P
  exact mx_th_X11_traceField_15 g1 P
theorem b_X11_traceField_34 {d : Nat} {h : mxH} {Q : mxRes → mxH → Prop} 
    (P : 12 ≤ d ∧ Q (.inr "java/lang/IllegalArgumentException") (hth h)) : mx_SX mY_X11_traceField d 34 [] [] h Q := by
  obtain ⟨g1, P⟩ := P
  exact mx_th_X11_traceField_34 g1 P
theorem b_X11_failures {d : Nat} {h : mxH} {Q : mxRes → mxH → Prop} (x0 : Nat)
    (P : hpK h x0 = 11 ∧ ∃ b1 : Nat, hpR h x0 5 = some b1 ∧ 1 ≤ d ∧ hpK h b1 = 10 ∧ mx_SM mY_X10_traceLength (d - 1) [.ref b1] h (mx_KI (fun v1 h1 => mx_SX mY_X11_failures d 12 [(0, .ref x0), (1, .int (0 : Int32)), (2, .int v1), (3, .int (0 : Int32))] [] h1 Q) (mx_XX mY_X11_failures Q))) : mx_SM mY_X11_failures d [.ref x0] h Q := by
  refine mx_SM_of (by decide) (Nat.le_of_ble_eq_true rfl) ?_
  show mx_SX mY_X11_failures d 0 [(0, .ref x0)] [] h Q
  refine mx_iconst (pc := 0) (v := (0 : Int32)) (mx_dd dd_X11_failures 0 (0, .iconst 0, 1) rfl) (by decide) ?_
  refine mx_istore_n (pc := 1) (mx_dd dd_X11_failures 1 (1, .istore_n 1, 1) rfl) rfl (by decide) (lv' := [(1, _), (0, _)]) rfl ?_
  refine mx_aload_n (pc := 2) 1 (mx_dd dd_X11_failures 2 (2, .aload_n 0, 1) rfl) rfl rfl ?_
  obtain ⟨g1, P⟩ := P
  obtain ⟨b1, g2, P⟩ := P
  refine mx_getR (pc := 3) mx_fl_X11_31 g1 rfl g2 (mx_dd dd_X11_failures 3 (3, .getfield 31, 3) rfl) ?_
  obtain ⟨g3, P⟩ := P
  obtain ⟨g4, P⟩ := P
  refine mx_cVI (pc := 6) (Y := mY_X10_traceLength) (As := []) mx_ml_X11_214 mx_y_X10_traceLength rfl g4 (by decide) rfl (by decide) rfl (mx_dd dd_X11_failures 4 (6, .invokevirtual 214, 3) rfl) g3 (by decide) P (fun v1 h1 P => ?_)
  refine mx_istore_n (pc := 9) (mx_dd dd_X11_failures 5 (9, .istore_n 2, 1) rfl) rfl (by decide) (lv' := [(2, _), (1, _), (0, _)]) rfl ?_
  refine mx_iconst (pc := 10) (v := (0 : Int32)) (mx_dd dd_X11_failures 6 (10, .iconst 0, 1) rfl) (by decide) ?_
  refine mx_istore_n (pc := 11) (mx_dd dd_X11_failures 7 (11, .istore_n 3, 1) rfl) rfl (by decide) (lv' := [(3, _), (2, _), (1, _), (0, _)]) rfl ?_
  refine mx_sel [3, 2, 1, 0] rfl ?_
  exact P
theorem b_X11_failures_12 {d : Nat} {h : mxH} {Q : mxRes → mxH → Prop} (x0 : Nat) (x1 : Int32) (x2 : Int32) (x3 : Int32)
    (P : ((x2 ≤ x3 → Q (.inl (some (.int x1))) h) ∧ (¬ x2 ≤ x3 → hpK h x0 = 11 ∧ ∃ b1 : Nat, hpR h x0 5 = some b1 ∧ 1 ≤ d ∧ hpK h b1 = 10 ∧ mx_SM mY_X10_recordField (d - 1) [.ref b1, .int x3, .int (1 : Int32)] h (mx_KI (fun v1 h1 => ((v1 = 0 → mx_SX mY_X11_failures d 32 [(0, .ref x0), (1, .int x1), (2, .int x2), (3, .int x3)] [] h1 Q) ∧ (¬ v1 = 0 → mx_SX mY_X11_failures d 32 [(0, .ref x0), (1, .int (x1 + (1 : Int32))), (2, .int x2), (3, .int x3)] [] h1 Q))) (mx_XX mY_X11_failures Q))))) : mx_SX mY_X11_failures d 12 [(0, .ref x0), (1, .int x1), (2, .int x2), (3, .int x3)] [] h Q := by
  refine mx_iload_n (pc := 12) 3 (mx_dd dd_X11_failures 8 (12, .iload_n 3, 1) rfl) rfl rfl ?_
  refine mx_iload_n (pc := 13) 2 (mx_dd dd_X11_failures 9 (13, .iload_n 2, 1) rfl) rfl rfl ?_
  refine mx_icmp_ge (pc := 14) 38 (mx_dd dd_X11_failures 10 (14, .if_icmp .ge 24, 3) rfl) rfl (fun c14 => ?_) (fun c14 => ?_)
  · have P := P.1 c14
    refine mx_iload_n (pc := 38) 1 (mx_dd dd_X11_failures 20 (38, .iload_n 1, 1) rfl) rfl rfl ?_
    exact mx_ireturn (pc := 39) (mx_dd dd_X11_failures 21 (39, .ireturn, 1) rfl) rfl rfl P
  · have P := P.2 c14
    refine mx_aload_n (pc := 17) 0 (mx_dd dd_X11_failures 11 (17, .aload_n 0, 1) rfl) rfl rfl ?_
    obtain ⟨g1, P⟩ := P
    obtain ⟨b1, g2, P⟩ := P
    refine mx_getR (pc := 18) mx_fl_X11_31 g1 rfl g2 (mx_dd dd_X11_failures 12 (18, .getfield 31, 3) rfl) ?_
    refine mx_iload_n (pc := 21) 3 (mx_dd dd_X11_failures 13 (21, .iload_n 3, 1) rfl) rfl rfl ?_
    refine mx_iconst (pc := 22) (v := (1 : Int32)) (mx_dd dd_X11_failures 14 (22, .iconst 1, 1) rfl) (by decide) ?_
    obtain ⟨g3, P⟩ := P
    obtain ⟨g4, P⟩ := P
    refine mx_cVI (pc := 23) (Y := mY_X10_recordField) (As := [.int _, .int _]) mx_ml_X11_225 mx_y_X10_recordField rfl g4 (by decide) rfl (by decide) rfl (mx_dd dd_X11_failures 15 (23, .invokevirtual 225, 3) rfl) g3 (by decide) P (fun v1 h1 P => ?_)
    refine mx_if_eq (pc := 26) 32 (mx_dd dd_X11_failures 16 (26, .ifCond .eq 6, 3) rfl) rfl (fun c26 => ?_) (fun c26 => ?_)
    · have P := P.1 c26
      exact P
    · have P := P.2 c26
      refine mx_iinc (pc := 29) 1 (mx_dd dd_X11_failures 17 (29, .iinc 1 1, 3) rfl) rfl (mx_kadd (by decide : Int32.ofInt 1 = (1 : Int32))) (by decide) (lv' := [(1, _), (0, _), (2, _), (3, _)]) rfl ?_
      refine mx_sel [1, 0, 2, 3] rfl ?_
      exact P
theorem b_X11_failures_32 {d : Nat} {h : mxH} {Q : mxRes → mxH → Prop} (x0 : Nat) (x1 : Int32) (x2 : Int32) (x3 : Int32)
    (P : mx_SX mY_X11_failures d 12 [(0, .ref x0), (1, .int x1), (2, .int x2), (3, .int (x3 + (1 : Int32)))] [] h Q) : mx_SX mY_X11_failures d 32 [(0, .ref x0), (1, .int x1), (2, .int x2), (3, .int x3)] [] h Q := by
  refine mx_iinc (pc := 32) 3 (mx_dd dd_X11_failures 18 (32, .iinc 3 1, 3) rfl) rfl (mx_kadd (by decide : Int32.ofInt 1 = (1 : Int32))) (by decide) (lv' := [(3, _), (0, _), (1, _), (2, _)]) rfl ?_
  refine mx_goto (pc := 35) 12 (mx_dd dd_X11_failures 19 (35, .goto (-23), 3) rfl) rfl ?_
  refine mx_sel [1, 2, 3, 0] rfl ?_
  exact P
theorem b_X11_formatLine {d : Nat} {h : mxH} {Q : mxRes → mxH → Prop} (x0 : Nat) (x1 : Int32) (x2 : Int32)
    (P : 1 ≤ d ∧ hpK h x0 = 11 ∧ mx_SM mY_X11_checkFile (d - 1) [.ref x0, .int x1] h (mx_KV (fun h1 => hpK h1 x0 = 11 ∧ ∃ b1 : Nat, hpR h1 x0 5 = some b1 ∧ hpK h1 b1 = 10 ∧ mx_SM mY_X10_lineAt (d - 1) [.ref b1, .int x1, .int x2] h1 (mx_KI (fun v1 h2 => ((0 ≤ v1 → hpK h2 x0 = 11 ∧ mx_SM mY_X11_formatRow (d - 1) [.ref x0, .int v1] h2 (mx_KI (fun v2 h3 => Q (.inl (some (.int v2))) h3) (mx_XX mY_X11_formatLine Q))) ∧ (¬ 0 ≤ v1 → 12 ≤ d ∧ Q (.inr "java/lang/IndexOutOfBoundsException") (hth h2)))) (mx_XX mY_X11_formatLine Q))) (mx_XX mY_X11_formatLine Q))) : mx_SM mY_X11_formatLine d [.ref x0, .int x1, .int x2] h Q := by
  refine mx_SM_of (by decide) (Nat.le_of_ble_eq_true rfl) ?_
  show mx_SX mY_X11_formatLine d 0 [(0, .ref x0), (1, .int x1), (2, .int x2)] [] h Q
  refine mx_aload_n (pc := 0) 0 (mx_dd dd_X11_formatLine 0 (0, .aload_n 0, 1) rfl) rfl rfl ?_
  refine mx_iload_n (pc := 1) 1 (mx_dd dd_X11_formatLine 1 (1, .iload_n 1, 1) rfl) rfl rfl ?_
  obtain ⟨g1, P⟩ := P
  obtain ⟨g2, P⟩ := P
  refine mx_cVV (pc := 2) (Y := mY_X11_checkFile) (As := [.int _]) mx_ml_X11_203 mx_y_X11_checkFile rfl g2 (by decide) rfl (by decide) rfl (mx_dd dd_X11_formatLine 2 (2, .invokevirtual 203, 3) rfl) g1 (by decide) P (fun h1 P => ?_)
  refine mx_aload_n (pc := 5) 0 (mx_dd dd_X11_formatLine 3 (5, .aload_n 0, 1) rfl) rfl rfl ?_
  obtain ⟨g3, P⟩ := P
  obtain ⟨b1, g4, P⟩ := P
  refine mx_getR (pc := 6) mx_fl_X11_31 g3 rfl g4 (mx_dd dd_X11_formatLine 4 (6, .getfield 31, 3) rfl) ?_
  refine mx_iload_n (pc := 9) 1 (mx_dd dd_X11_formatLine 5 (9, .iload_n 1, 1) rfl) rfl rfl ?_
  refine mx_iload_n (pc := 10) 2 (mx_dd dd_X11_formatLine 6 (10, .iload_n 2, 1) rfl) rfl rfl ?_
  obtain ⟨g5, P⟩ := P
  refine mx_cVI (pc := 11) (Y := mY_X10_lineAt) (As := [.int _, .int _]) mx_ml_X11_229 mx_y_X10_lineAt rfl g5 (by decide) rfl (by decide) rfl (mx_dd dd_X11_formatLine 7 (11, .invokevirtual 229, 3) rfl) g1 (by decide) P (fun v1 h2 P => ?_)
  refine mx_istore_n (pc := 14) (mx_dd dd_X11_formatLine 8 (14, .istore_n 3, 1) rfl) rfl (by decide) (lv' := [(3, _), (0, _), (1, _), (2, _)]) rfl ?_
  refine mx_iload_n (pc := 15) 0 (mx_dd dd_X11_formatLine 9 (15, .iload_n 3, 1) rfl) rfl rfl ?_
  refine mx_if_ge (pc := 16) 29 (mx_dd dd_X11_formatLine 10 (16, .ifCond .ge 13, 3) rfl) rfl (fun c16 => ?_) (fun c16 => ?_)
  · have P := P.1 c16
    refine mx_aload_n (pc := 29) 1 (mx_dd dd_X11_formatLine 16 (29, .aload_n 0, 1) rfl) rfl rfl ?_
    refine mx_iload_n (pc := 30) 0 (mx_dd dd_X11_formatLine 17 (30, .iload_n 3, 1) rfl) rfl rfl ?_
    obtain ⟨g6, P⟩ := P
    refine mx_cVI (pc := 31) (Y := mY_X11_formatRow) (As := [.int _]) mx_ml_X11_234 mx_y_X11_formatRow rfl g6 (by decide) rfl (by decide) rfl (mx_dd dd_X11_formatLine 18 (31, .invokevirtual 234, 3) rfl) g1 (by decide) P (fun v2 h3 P => ?_)
    exact mx_ireturn (pc := 34) (mx_dd dd_X11_formatLine 19 (34, .ireturn, 1) rfl) rfl rfl P
  · have P := P.2 c16
    obtain ⟨g7, P⟩ := P
    exact mx_th_X11_formatLine_19 g7 P
theorem b_X11_formatRow {d : Nat} {h : mxH} {Q : mxRes → mxH → Prop} (x0 : Nat) (x1 : Int32)
    (P : hpK h x0 = 11 ∧ ∃ b1 : Nat, hpR h x0 4 = some b1 ∧ ∃ b2 : Nat, hpR h x0 2 = some b2 ∧ 1 ≤ d ∧ hpK h b1 = 3 ∧ mx_SM mY_X3_copyTo (d - 1) [.ref b1, .int x1, .ref b2, .int (0 : Int32)] h (mx_KI (fun v1 h1 => hpK h1 x0 = 11 ∧ ∀ h2 : mxH, h2 = hsI h1 x0 3 v1 → Q (.inl (some (.int (hpI h2 x0 3)))) h2) (mx_XX mY_X11_formatRow Q))) : mx_SM mY_X11_formatRow d [.ref x0, .int x1] h Q := by
  refine mx_SM_of (by decide) (Nat.le_of_ble_eq_true rfl) ?_
  show mx_SX mY_X11_formatRow d 0 [(0, .ref x0), (1, .int x1)] [] h Q
  refine mx_aload_n (pc := 0) 0 (mx_dd dd_X11_formatRow 0 (0, .aload_n 0, 1) rfl) rfl rfl ?_
  refine mx_aload_n (pc := 1) 0 (mx_dd dd_X11_formatRow 1 (1, .aload_n 0, 1) rfl) rfl rfl ?_
  obtain ⟨g1, P⟩ := P
  obtain ⟨b1, g2, P⟩ := P
  refine mx_getR (pc := 2) mx_fl_X11_19 g1 rfl g2 (mx_dd dd_X11_formatRow 2 (2, .getfield 19, 3) rfl) ?_
  refine mx_iload_n (pc := 5) 1 (mx_dd dd_X11_formatRow 3 (5, .iload_n 1, 1) rfl) rfl rfl ?_
  refine mx_aload_n (pc := 6) 0 (mx_dd dd_X11_formatRow 4 (6, .aload_n 0, 1) rfl) rfl rfl ?_
  obtain ⟨b2, g3, P⟩ := P
  refine mx_getR (pc := 7) mx_fl_X11_13 g1 rfl g3 (mx_dd dd_X11_formatRow 5 (7, .getfield 13, 3) rfl) ?_
  refine mx_iconst (pc := 10) (v := (0 : Int32)) (mx_dd dd_X11_formatRow 6 (10, .iconst 0, 1) rfl) (by decide) ?_
  obtain ⟨g4, P⟩ := P
  obtain ⟨g5, P⟩ := P
  refine mx_cVI (pc := 11) (Y := mY_X3_copyTo) (As := [.int _, .ref _, .int _]) mx_ml_X11_237 mx_y_X3_copyTo rfl g5 (by decide) rfl (by simp [Value.category]) rfl (mx_dd dd_X11_formatRow 7 (11, .invokevirtual 237, 3) rfl) g4 (by decide) P (fun v1 h1 P => ?_)
  obtain ⟨g6, P⟩ := P
  refine mx_putI (pc := 14) mx_fl_X11_241 g6 rfl (.inl rfl) rfl rfl (mx_dd dd_X11_formatRow 8 (14, .putfield 241, 3) rfl) ?_
  have P := P _ rfl
  refine mx_aload_n (pc := 17) 0 (mx_dd dd_X11_formatRow 9 (17, .aload_n 0, 1) rfl) rfl rfl ?_
  refine mx_getI (pc := 18) mx_fl_X11_241 g6 rfl (mx_dd dd_X11_formatRow 10 (18, .getfield 241, 3) rfl) ?_
  exact mx_ireturn (pc := 21) (mx_dd dd_X11_formatRow 11 (21, .ireturn, 1) rfl) rfl rfl P
theorem b_X11_formatOutput {d : Nat} {h : mxH} {Q : mxRes → mxH → Prop} (x0 : Nat) (x1 : Int32)
    (P : ((x1 < 0 → mx_SX mY_X11_formatOutput d 21 [] [] h Q) ∧ (¬ x1 < 0 → hpK h x0 = 11 ∧ ∃ b1 : Nat, hpR h x0 5 = some b1 ∧ hpK h b1 = 10 ∧ (((hpI h b1 7) ≤ x1 → mx_SX mY_X11_formatOutput d 21 [] [] h Q) ∧ (¬ (hpI h b1 7) ≤ x1 → ((x1 < (100 : Int32) → ∃ b2 : Nat, hpR h b1 6 = some b2 ∧ hpK h b2 = 14 ∧ vp_in x1 (hpZ h b2) ∧ 1 ≤ d ∧ mx_SM mY_X11_formatRow (d - 1) [.ref x0, .int (hpI h b2 x1.toNatClampNeg)] h (mx_KI (fun v1 h1 => Q (.inl (some (.int v1))) h1) (mx_XX mY_X11_formatOutput Q))) ∧ (¬ x1 < (100 : Int32) → mx_SX mY_X11_formatOutput d 21 [] [] h Q))))))) : mx_SM mY_X11_formatOutput d [.ref x0, .int x1] h Q := by
  refine mx_SM_of (by decide) (Nat.le_of_ble_eq_true rfl) ?_
  show mx_SX mY_X11_formatOutput d 0 [(0, .ref x0), (1, .int x1)] [] h Q
  refine mx_iload_n (pc := 0) 1 (mx_dd dd_X11_formatOutput 0 (0, .iload_n 1, 1) rfl) rfl rfl ?_
  refine mx_if_lt (pc := 1) 21 (mx_dd dd_X11_formatOutput 1 (1, .ifCond .lt 20, 3) rfl) rfl (fun c1 => ?_) (fun c1 => ?_)
  · have P := P.1 c1
    refine mx_sel [] rfl ?_
    exact P
  · have P := P.2 c1
    refine mx_iload_n (pc := 4) 1 (mx_dd dd_X11_formatOutput 2 (4, .iload_n 1, 1) rfl) rfl rfl ?_
    refine mx_aload_n (pc := 5) 0 (mx_dd dd_X11_formatOutput 3 (5, .aload_n 0, 1) rfl) rfl rfl ?_
    obtain ⟨g1, P⟩ := P
    obtain ⟨b1, g2, P⟩ := P
    refine mx_getR (pc := 6) mx_fl_X11_31 g1 rfl g2 (mx_dd dd_X11_formatOutput 4 (6, .getfield 31, 3) rfl) ?_
    obtain ⟨g3, P⟩ := P
    refine mx_getI (pc := 9) mx_fl_X11_211 g3 rfl (mx_dd dd_X11_formatOutput 5 (9, .getfield 211, 3) rfl) ?_
    refine mx_icmp_ge (pc := 12) 21 (mx_dd dd_X11_formatOutput 6 (12, .if_icmp .ge 9, 3) rfl) rfl (fun c12 => ?_) (fun c12 => ?_)
    · have P := P.1 c12
      refine mx_sel [] rfl ?_
      exact P
    · have P := P.2 c12
      refine mx_iload_n (pc := 15) 1 (mx_dd dd_X11_formatOutput 7 (15, .iload_n 1, 1) rfl) rfl rfl ?_
      refine mx_bipush (pc := 16) (v := (100 : Int32)) (mx_dd dd_X11_formatOutput 8 (16, .bipush 100, 2) rfl) (by decide) ?_
      refine mx_icmp_lt (pc := 18) 31 (mx_dd dd_X11_formatOutput 9 (18, .if_icmp .lt 13, 3) rfl) rfl (fun c18 => ?_) (fun c18 => ?_)
      · have P := P.1 c18
        refine mx_aload_n (pc := 31) 0 (mx_dd dd_X11_formatOutput 15 (31, .aload_n 0, 1) rfl) rfl rfl ?_
        refine mx_aload_n (pc := 32) 0 (mx_dd dd_X11_formatOutput 16 (32, .aload_n 0, 1) rfl) rfl rfl ?_
        refine mx_getR (pc := 33) mx_fl_X11_31 g1 rfl g2 (mx_dd dd_X11_formatOutput 17 (33, .getfield 31, 3) rfl) ?_
        obtain ⟨b2, g4, P⟩ := P
        refine mx_getR (pc := 36) mx_fl_X11_244 g3 rfl g4 (mx_dd dd_X11_formatOutput 18 (36, .getfield 244, 3) rfl) ?_
        refine mx_iload_n (pc := 39) 1 (mx_dd dd_X11_formatOutput 19 (39, .iload_n 1, 1) rfl) rfl rfl ?_
        obtain ⟨g5, P⟩ := P
        obtain ⟨g6, P⟩ := P
        refine mx_iald (pc := 40) g5 g6 (mx_dd dd_X11_formatOutput 20 (40, .iaload, 1) rfl) ?_
        obtain ⟨g7, P⟩ := P
        refine mx_cVI (pc := 41) (Y := mY_X11_formatRow) (As := [.int _]) mx_ml_X11_234 mx_y_X11_formatRow rfl g1 (by decide) rfl (by decide) rfl (mx_dd dd_X11_formatOutput 21 (41, .invokevirtual 234, 3) rfl) g7 (by decide) P (fun v1 h1 P => ?_)
        exact mx_ireturn (pc := 44) (mx_dd dd_X11_formatOutput 22 (44, .ireturn, 1) rfl) rfl rfl P
      · have P := P.2 c18
        refine mx_sel [] rfl ?_
        exact P
theorem b_X11_formatOutput_21 {d : Nat} {h : mxH} {Q : mxRes → mxH → Prop} 
    (P : 12 ≤ d ∧ Q (.inr "java/lang/IndexOutOfBoundsException") (hth h)) : mx_SX mY_X11_formatOutput d 21 [] [] h Q := by
  obtain ⟨g1, P⟩ := P
  exact mx_th_X11_formatOutput_21 g1 P
theorem b_X11_formatVariable {d : Nat} {h : mxH} {Q : mxRes → mxH → Prop} (x0 : Nat) (x1 : Int64)
    (P : hpK h x0 = 11 ∧ ∃ b1 : Nat, hpR h x0 5 = some b1 ∧ hpK h b1 = 10 ∧ ∃ b2 : Nat, hpR h b1 8 = some b2 ∧ hpK h b2 = 8 ∧ ∃ b3 : Nat, hpR h b2 0 = some b3 ∧ 1 ≤ d ∧ hpK h b3 = 9 ∧ mx_SM mY_X9_find (d - 1) [.ref b3, .long x1] h (mx_KI (fun v1 h1 => ((0 ≤ v1 → hpK h1 x0 = 11 ∧ ∃ b4 : Nat, hpR h1 x0 5 = some b4 ∧ hpK h1 b4 = 10 ∧ ∃ b5 : Nat, hpR h1 b4 8 = some b5 ∧ hpK h1 b5 = 8 ∧ ∃ b6 : Nat, hpR h1 b5 0 = some b6 ∧ hpK h1 b6 = 9 ∧ mx_SM mY_X9_valueAt (d - 1) [.ref b6, .int v1] h1 (mx_KI (fun v2 h2 => hpK h2 x0 = 11 ∧ mx_SM mY_X11_formatRow (d - 1) [.ref x0, .int v2] h2 (mx_KI (fun v3 h3 => Q (.inl (some (.int v3))) h3) (mx_XX mY_X11_formatVariable Q))) (mx_XX mY_X11_formatVariable Q))) ∧ (¬ 0 ≤ v1 → Q (.inl (some (.int (-1 : Int32)))) h1))) (mx_XX mY_X11_formatVariable Q))) : mx_SM mY_X11_formatVariable d [.ref x0, .long x1] h Q := by
  refine mx_SM_of (by decide) (Nat.le_of_ble_eq_true rfl) ?_
  show mx_SX mY_X11_formatVariable d 0 [(0, .ref x0), (1, .long x1)] [] h Q
  refine mx_aload_n (pc := 0) 0 (mx_dd dd_X11_formatVariable 0 (0, .aload_n 0, 1) rfl) rfl rfl ?_
  obtain ⟨g1, P⟩ := P
  obtain ⟨b1, g2, P⟩ := P
  refine mx_getR (pc := 1) mx_fl_X11_31 g1 rfl g2 (mx_dd dd_X11_formatVariable 1 (1, .getfield 31, 3) rfl) ?_
  obtain ⟨g3, P⟩ := P
  obtain ⟨b2, g4, P⟩ := P
  refine mx_getR (pc := 4) mx_fl_X11_122 g3 rfl g4 (mx_dd dd_X11_formatVariable 2 (4, .getfield 122, 3) rfl) ?_
  obtain ⟨g5, P⟩ := P
  obtain ⟨b3, g6, P⟩ := P
  refine mx_getR (pc := 7) mx_fl_X11_172 g5 rfl g6 (mx_dd dd_X11_formatVariable 3 (7, .getfield 172, 3) rfl) ?_
  refine mx_lload_n (pc := 10) 1 (mx_dd dd_X11_formatVariable 4 (10, .lload_n 1, 1) rfl) rfl rfl ?_
  obtain ⟨g7, P⟩ := P
  obtain ⟨g8, P⟩ := P
  refine mx_cVI (pc := 11) (Y := mY_X9_find) (As := [.long _]) mx_ml_X11_181 mx_y_X9_find rfl g8 (by decide) rfl (by decide) rfl (mx_dd dd_X11_formatVariable 5 (11, .invokevirtual 181, 3) rfl) g7 (by decide) P (fun v1 h1 P => ?_)
  refine mx_istore_n (pc := 14) (mx_dd dd_X11_formatVariable 6 (14, .istore_n 3, 1) rfl) rfl (by decide) (lv' := [(3, _), (0, _), (1, _)]) rfl ?_
  refine mx_iload_n (pc := 15) 0 (mx_dd dd_X11_formatVariable 7 (15, .iload_n 3, 1) rfl) rfl rfl ?_
  refine mx_if_ge (pc := 16) 21 (mx_dd dd_X11_formatVariable 8 (16, .ifCond .ge 5, 3) rfl) rfl (fun c16 => ?_) (fun c16 => ?_)
  · have P := P.1 c16
    refine mx_aload_n (pc := 21) 1 (mx_dd dd_X11_formatVariable 11 (21, .aload_n 0, 1) rfl) rfl rfl ?_
    refine mx_aload_n (pc := 22) 1 (mx_dd dd_X11_formatVariable 12 (22, .aload_n 0, 1) rfl) rfl rfl ?_
    obtain ⟨g9, P⟩ := P
    obtain ⟨b4, g10, P⟩ := P
    refine mx_getR (pc := 23) mx_fl_X11_31 g9 rfl g10 (mx_dd dd_X11_formatVariable 13 (23, .getfield 31, 3) rfl) ?_
    obtain ⟨g11, P⟩ := P
    obtain ⟨b5, g12, P⟩ := P
    refine mx_getR (pc := 26) mx_fl_X11_122 g11 rfl g12 (mx_dd dd_X11_formatVariable 14 (26, .getfield 122, 3) rfl) ?_
    obtain ⟨g13, P⟩ := P
    obtain ⟨b6, g14, P⟩ := P
    refine mx_getR (pc := 29) mx_fl_X11_172 g13 rfl g14 (mx_dd dd_X11_formatVariable 15 (29, .getfield 172, 3) rfl) ?_
    refine mx_iload_n (pc := 32) 0 (mx_dd dd_X11_formatVariable 16 (32, .iload_n 3, 1) rfl) rfl rfl ?_
    obtain ⟨g15, P⟩ := P
    refine mx_cVI (pc := 33) (Y := mY_X9_valueAt) (As := [.int _]) mx_ml_X11_248 mx_y_X9_valueAt rfl g15 (by decide) rfl (by simp [Value.category]) rfl (mx_dd dd_X11_formatVariable 17 (33, .invokevirtual 248, 3) rfl) g7 (by decide) P (fun v2 h2 P => ?_)
    obtain ⟨g16, P⟩ := P
    refine mx_cVI (pc := 36) (Y := mY_X11_formatRow) (As := [.int _]) mx_ml_X11_234 mx_y_X11_formatRow rfl g16 (by decide) rfl (by decide) rfl (mx_dd dd_X11_formatVariable 18 (36, .invokevirtual 234, 3) rfl) g7 (by decide) P (fun v3 h3 P => ?_)
    exact mx_ireturn (pc := 39) (mx_dd dd_X11_formatVariable 19 (39, .ireturn, 1) rfl) rfl rfl P
  · have P := P.2 c16
    refine mx_iconst (pc := 19) (v := (-1 : Int32)) (mx_dd dd_X11_formatVariable 9 (19, .iconst (-1), 1) rfl) (by decide) ?_
    exact mx_ireturn (pc := 20) (mx_dd dd_X11_formatVariable 10 (20, .ireturn, 1) rfl) rfl rfl P
theorem b_X11_formatHandles {d : Nat} {h : mxH} {Q : mxRes → mxH → Prop} (x0 : Nat)
    (P : hpK h x0 = 11 ∧ ∀ h1 : mxH, h1 = hsI h x0 3 (0 : Int32) → mx_SX mY_X11_formatHandles d 7 [(0, .ref x0), (1, .int (0 : Int32))] [] h1 Q) : mx_SM mY_X11_formatHandles d [.ref x0] h Q := by
  refine mx_SM_of (by decide) (Nat.le_of_ble_eq_true rfl) ?_
  show mx_SX mY_X11_formatHandles d 0 [(0, .ref x0)] [] h Q
  refine mx_aload_n (pc := 0) 0 (mx_dd dd_X11_formatHandles 0 (0, .aload_n 0, 1) rfl) rfl rfl ?_
  refine mx_iconst (pc := 1) (v := (0 : Int32)) (mx_dd dd_X11_formatHandles 1 (1, .iconst 0, 1) rfl) (by decide) ?_
  obtain ⟨g1, P⟩ := P
  refine mx_putI (pc := 2) mx_fl_X11_241 g1 rfl (.inl rfl) rfl rfl (mx_dd dd_X11_formatHandles 2 (2, .putfield 241, 3) rfl) ?_
  have P := P _ rfl
  refine mx_iconst (pc := 5) (v := (0 : Int32)) (mx_dd dd_X11_formatHandles 3 (5, .iconst 0, 1) rfl) (by decide) ?_
  refine mx_istore_n (pc := 6) (mx_dd dd_X11_formatHandles 4 (6, .istore_n 1, 1) rfl) rfl (by decide) (lv' := [(1, _), (0, _)]) rfl ?_
  refine mx_sel [1, 0] rfl ?_
  exact P
theorem b_X11_formatHandles_7 {d : Nat} {h : mxH} {Q : mxRes → mxH → Prop} (x0 : Nat) (x1 : Int32)
    (P : (((10 : Int32) ≤ x1 → hpK h x0 = 11 ∧ Q (.inl (some (.int (hpI h x0 3)))) h) ∧ (¬ (10 : Int32) ≤ x1 → hpK h x0 = 11 ∧ ∃ b1 : Nat, hpR h x0 2 = some b1 ∧ ∃ b2 : Nat, hpR h x0 5 = some b2 ∧ hpK h b2 = 10 ∧ ∃ b3 : Nat, hpR h b2 8 = some b3 ∧ hpK h b3 = 8 ∧ ∃ b4 : Nat, hpR h b3 3 = some b4 ∧ 1 ≤ d ∧ hpK h b4 = 2 ∧ mx_SM mY_X2_kindOf (d - 1) [.ref b4, .int x1] h (mx_KI (fun v1 h1 => mx_SM mY_X11_letterOf (d - 1) [.int v1] h1 (mx_KI (fun v2 h2 => hpK h2 b1 = 13 ∧ vp_in x1 (hpZ h2 b1) ∧ ∀ h3 : mxH, h3 = hsI h2 b1 x1.toNatClampNeg (v2.toInt8.toInt32).toInt8.toInt32 → hpK h3 x0 = 11 ∧ ∀ h4 : mxH, h4 = hsI h3 x0 3 ((hpI h3 x0 3) + (1 : Int32)) → mx_SX mY_X11_formatHandles d 7 [(0, .ref x0), (1, .int (x1 + (1 : Int32)))] [] h4 Q) (mx_XX mY_X11_formatHandles Q))) (mx_XX mY_X11_formatHandles Q))))) : mx_SX mY_X11_formatHandles d 7 [(0, .ref x0), (1, .int x1)] [] h Q := by
  refine mx_iload_n (pc := 7) 1 (mx_dd dd_X11_formatHandles 5 (7, .iload_n 1, 1) rfl) rfl rfl ?_
  refine mx_bipush (pc := 8) (v := (10 : Int32)) (mx_dd dd_X11_formatHandles 6 (8, .bipush 10, 2) rfl) (by decide) ?_
  refine mx_icmp_ge (pc := 10) 53 (mx_dd dd_X11_formatHandles 7 (10, .if_icmp .ge 43, 3) rfl) rfl (fun c10 => ?_) (fun c10 => ?_)
  · have P := P.1 c10
    refine mx_aload_n (pc := 53) 0 (mx_dd dd_X11_formatHandles 28 (53, .aload_n 0, 1) rfl) rfl rfl ?_
    obtain ⟨g1, P⟩ := P
    refine mx_getI (pc := 54) mx_fl_X11_241 g1 rfl (mx_dd dd_X11_formatHandles 29 (54, .getfield 241, 3) rfl) ?_
    exact mx_ireturn (pc := 57) (mx_dd dd_X11_formatHandles 30 (57, .ireturn, 1) rfl) rfl rfl P
  · have P := P.2 c10
    refine mx_aload_n (pc := 13) 0 (mx_dd dd_X11_formatHandles 8 (13, .aload_n 0, 1) rfl) rfl rfl ?_
    obtain ⟨g2, P⟩ := P
    obtain ⟨b1, g3, P⟩ := P
    refine mx_getR (pc := 14) mx_fl_X11_13 g2 rfl g3 (mx_dd dd_X11_formatHandles 9 (14, .getfield 13, 3) rfl) ?_
    refine mx_iload_n (pc := 17) 1 (mx_dd dd_X11_formatHandles 10 (17, .iload_n 1, 1) rfl) rfl rfl ?_
    refine mx_aload_n (pc := 18) 0 (mx_dd dd_X11_formatHandles 11 (18, .aload_n 0, 1) rfl) rfl rfl ?_
    obtain ⟨b2, g4, P⟩ := P
    refine mx_getR (pc := 19) mx_fl_X11_31 g2 rfl g4 (mx_dd dd_X11_formatHandles 12 (19, .getfield 31, 3) rfl) ?_
    obtain ⟨g5, P⟩ := P
    obtain ⟨b3, g6, P⟩ := P
    refine mx_getR (pc := 22) mx_fl_X11_122 g5 rfl g6 (mx_dd dd_X11_formatHandles 13 (22, .getfield 122, 3) rfl) ?_
    obtain ⟨g7, P⟩ := P
    obtain ⟨b4, g8, P⟩ := P
    refine mx_getR (pc := 25) mx_fl_X11_163 g7 rfl g8 (mx_dd dd_X11_formatHandles 14 (25, .getfield 163, 3) rfl) ?_
    refine mx_iload_n (pc := 28) 1 (mx_dd dd_X11_formatHandles 15 (28, .iload_n 1, 1) rfl) rfl rfl ?_
    obtain ⟨g9, P⟩ := P
    obtain ⟨g10, P⟩ := P
    refine mx_cVI (pc := 29) (Y := mY_X2_kindOf) (As := [.int _]) mx_ml_X11_167 mx_y_X2_kindOf rfl g10 (by decide) rfl (by simp [Value.category]) rfl (mx_dd dd_X11_formatHandles 16 (29, .invokevirtual 167, 3) rfl) g9 (by decide) P (fun v1 h1 P => ?_)
    refine mx_cSI (pc := 32) (Y := mY_X11_letterOf) (As := [.int _]) mx_ml_X11_251 mx_y_X11_letterOf rfl rfl (by simp [Value.category]) rfl (mx_dd dd_X11_formatHandles 17 (32, .invokestatic 251, 3) rfl) g9 (by decide) P (fun v2 h2 P => ?_)
    refine mx_i2b (pc := 35) (mx_dd dd_X11_formatHandles 18 (35, .i2b, 1) rfl) ?_
    obtain ⟨g11, P⟩ := P
    obtain ⟨g12, P⟩ := P
    refine mx_bast (pc := 36) g11 g12 (mx_dd dd_X11_formatHandles 19 (36, .bastore, 1) rfl) ?_
    have P := P _ rfl
    refine mx_aload_n (pc := 37) 0 (mx_dd dd_X11_formatHandles 20 (37, .aload_n 0, 1) rfl) rfl rfl ?_
    refine mx_dup (pc := 38) (mx_dd dd_X11_formatHandles 21 (38, .dup, 1) rfl) rfl ?_
    obtain ⟨g13, P⟩ := P
    refine mx_getI (pc := 39) mx_fl_X11_241 g13 rfl (mx_dd dd_X11_formatHandles 22 (39, .getfield 241, 3) rfl) ?_
    refine mx_iconst (pc := 42) (v := (1 : Int32)) (mx_dd dd_X11_formatHandles 23 (42, .iconst 1, 1) rfl) (by decide) ?_
    refine mx_iadd (pc := 43) (mx_dd dd_X11_formatHandles 24 (43, .iadd, 1) rfl) ?_
    refine mx_putI (pc := 44) mx_fl_X11_241 g13 rfl (.inl rfl) rfl rfl (mx_dd dd_X11_formatHandles 25 (44, .putfield 241, 3) rfl) ?_
    have P := P _ rfl
    refine mx_iinc (pc := 47) 1 (mx_dd dd_X11_formatHandles 26 (47, .iinc 1 1, 3) rfl) rfl (mx_kadd (by decide : Int32.ofInt 1 = (1 : Int32))) (by decide) (lv' := [(1, _), (0, _)]) rfl ?_
    refine mx_goto (pc := 50) 7 (mx_dd dd_X11_formatHandles 27 (50, .goto (-43), 3) rfl) rfl ?_
    refine mx_sel [1, 0] rfl ?_
    exact P
theorem b_X11_letterOf {d : Nat} {h : mxH} {Q : mxRes → mxH → Prop} (x0 : Int32)
    (P : ((x0.toInt < 1 ∨ 4 < x0.toInt → mx_SX mY_X11_letterOf d 44 [] [] h Q) ∧ (x0.toInt = 1 → mx_SX mY_X11_letterOf d 32 [] [] h Q) ∧ (x0.toInt = 2 → mx_SX mY_X11_letterOf d 35 [] [] h Q) ∧ (x0.toInt = 3 → mx_SX mY_X11_letterOf d 38 [] [] h Q) ∧ (x0.toInt = 4 → mx_SX mY_X11_letterOf d 41 [] [] h Q))) : mx_SM mY_X11_letterOf d [.int x0] h Q := by
  refine mx_SM_of (by decide) (Nat.le_of_ble_eq_true rfl) ?_
  show mx_SX mY_X11_letterOf d 0 [(0, .int x0)] [] h Q
  refine mx_iload_n (pc := 0) 0 (mx_dd dd_X11_letterOf 0 (0, .iload_n 0, 1) rfl) rfl rfl ?_
  refine mx_tsw (pc := 1) 44 (mx_dd dd_X11_letterOf 1 (1, .tableswitch 43 1 4 #[31, 34, 37, 40], 31) rfl) rfl [32, 35, 38, 41] rfl rfl (fun c1 => ?_) ?_
  · have P := P.1 c1
    refine mx_sel [] rfl ?_
    exact P
  · intro j t hj hx
    have hj9 : j < 4 := (List.getElem?_eq_some_iff.mp hj).1
    have hj8 : j = 0 ∨ j = 1 ∨ j = 2 ∨ j = 3 := by omega
    rcases hj8 with rfl | rfl | rfl | rfl
    · cases hj
      have P := P.2.1 (by omega)
      refine mx_sel [] rfl ?_
      exact P
    · cases hj
      have P := P.2.2.1 (by omega)
      refine mx_sel [] rfl ?_
      exact P
    · cases hj
      have P := P.2.2.2.1 (by omega)
      refine mx_sel [] rfl ?_
      exact P
    · cases hj
      have P := P.2.2.2.2 (by omega)
      refine mx_sel [] rfl ?_
      exact P
theorem b_X11_letterOf_32 {d : Nat} {h : mxH} {Q : mxRes → mxH → Prop} 
    (P : Q (.inl (some (.int (116 : Int32)))) h) : mx_SX mY_X11_letterOf d 32 [] [] h Q := by
  refine mx_bipush (pc := 32) (v := (116 : Int32)) (mx_dd dd_X11_letterOf 2 (32, .bipush 116, 2) rfl) (by decide) ?_
  exact mx_ireturn (pc := 34) (mx_dd dd_X11_letterOf 3 (34, .ireturn, 1) rfl) rfl rfl P
theorem b_X11_letterOf_35 {d : Nat} {h : mxH} {Q : mxRes → mxH → Prop} 
    (P : Q (.inl (some (.int (114 : Int32)))) h) : mx_SX mY_X11_letterOf d 35 [] [] h Q := by
  refine mx_bipush (pc := 35) (v := (114 : Int32)) (mx_dd dd_X11_letterOf 4 (35, .bipush 114, 2) rfl) (by decide) ?_
  exact mx_ireturn (pc := 37) (mx_dd dd_X11_letterOf 5 (37, .ireturn, 1) rfl) rfl rfl P
theorem b_X11_letterOf_38 {d : Nat} {h : mxH} {Q : mxRes → mxH → Prop} 
    (P : Q (.inl (some (.int (119 : Int32)))) h) : mx_SX mY_X11_letterOf d 38 [] [] h Q := by
  refine mx_bipush (pc := 38) (v := (119 : Int32)) (mx_dd dd_X11_letterOf 6 (38, .bipush 119, 2) rfl) (by decide) ?_
  exact mx_ireturn (pc := 40) (mx_dd dd_X11_letterOf 7 (40, .ireturn, 1) rfl) rfl rfl P
theorem b_X11_letterOf_41 {d : Nat} {h : mxH} {Q : mxRes → mxH → Prop} 
    (P : Q (.inl (some (.int (97 : Int32)))) h) : mx_SX mY_X11_letterOf d 41 [] [] h Q := by
  refine mx_bipush (pc := 41) (v := (97 : Int32)) (mx_dd dd_X11_letterOf 8 (41, .bipush 97, 2) rfl) (by decide) ?_
  exact mx_ireturn (pc := 43) (mx_dd dd_X11_letterOf 9 (43, .ireturn, 1) rfl) rfl rfl P
theorem b_X11_letterOf_44 {d : Nat} {h : mxH} {Q : mxRes → mxH → Prop} 
    (P : Q (.inl (some (.int (46 : Int32)))) h) : mx_SX mY_X11_letterOf d 44 [] [] h Q := by
  refine mx_bipush (pc := 44) (v := (46 : Int32)) (mx_dd dd_X11_letterOf 10 (44, .bipush 46, 2) rfl) (by decide) ?_
  exact mx_ireturn (pc := 46) (mx_dd dd_X11_letterOf 11 (46, .ireturn, 1) rfl) rfl rfl P
theorem b_X11_formatName {d : Nat} {h : mxH} {Q : mxRes → mxH → Prop} (x0 : Nat) (x1 : Int32)
    (P : 1 ≤ d ∧ hpK h x0 = 11 ∧ mx_SM mY_X11_checkFile (d - 1) [.ref x0, .int x1] h (mx_KV (fun h1 => hpK h1 x0 = 11 ∧ ∃ b1 : Nat, hpR h1 x0 5 = some b1 ∧ hpK h1 b1 = 10 ∧ mx_SM mY_X10_fileName (d - 1) [.ref b1, .int x1] h1 (mx_KL (fun v1 h2 => hpK h2 x0 = 11 ∧ ∃ b2 : Nat, hpR h2 x0 2 = some b2 ∧ mx_SM mY_X11_spell (d - 1) [.long v1, .ref b2, .int (0 : Int32)] h2 (mx_KI (fun v2 h3 => hpK h3 x0 = 11 ∧ ∀ h4 : mxH, h4 = hsI h3 x0 3 v2 → Q (.inl (some (.int (hpI h4 x0 3)))) h4) (mx_XX mY_X11_formatName Q))) (mx_XX mY_X11_formatName Q))) (mx_XX mY_X11_formatName Q))) : mx_SM mY_X11_formatName d [.ref x0, .int x1] h Q := by
  refine mx_SM_of (by decide) (Nat.le_of_ble_eq_true rfl) ?_
  show mx_SX mY_X11_formatName d 0 [(0, .ref x0), (1, .int x1)] [] h Q
  refine mx_aload_n (pc := 0) 0 (mx_dd dd_X11_formatName 0 (0, .aload_n 0, 1) rfl) rfl rfl ?_
  refine mx_iload_n (pc := 1) 1 (mx_dd dd_X11_formatName 1 (1, .iload_n 1, 1) rfl) rfl rfl ?_
  obtain ⟨g1, P⟩ := P
  obtain ⟨g2, P⟩ := P
  refine mx_cVV (pc := 2) (Y := mY_X11_checkFile) (As := [.int _]) mx_ml_X11_203 mx_y_X11_checkFile rfl g2 (by decide) rfl (by decide) rfl (mx_dd dd_X11_formatName 2 (2, .invokevirtual 203, 3) rfl) g1 (by decide) P (fun h1 P => ?_)
  refine mx_aload_n (pc := 5) 0 (mx_dd dd_X11_formatName 3 (5, .aload_n 0, 1) rfl) rfl rfl ?_
  refine mx_aload_n (pc := 6) 0 (mx_dd dd_X11_formatName 4 (6, .aload_n 0, 1) rfl) rfl rfl ?_
  obtain ⟨g3, P⟩ := P
  obtain ⟨b1, g4, P⟩ := P
  refine mx_getR (pc := 7) mx_fl_X11_31 g3 rfl g4 (mx_dd dd_X11_formatName 5 (7, .getfield 31, 3) rfl) ?_
  refine mx_iload_n (pc := 10) 1 (mx_dd dd_X11_formatName 6 (10, .iload_n 1, 1) rfl) rfl rfl ?_
  obtain ⟨g5, P⟩ := P
  refine mx_cVL (pc := 11) (Y := mY_X10_fileName) (As := [.int _]) mx_ml_X11_255 mx_y_X10_fileName rfl g5 (by decide) rfl (by simp [Value.category]) rfl (mx_dd dd_X11_formatName 7 (11, .invokevirtual 255, 3) rfl) g1 (by decide) P (fun v1 h2 P => ?_)
  refine mx_aload_n (pc := 14) 0 (mx_dd dd_X11_formatName 8 (14, .aload_n 0, 1) rfl) rfl rfl ?_
  obtain ⟨g6, P⟩ := P
  obtain ⟨b2, g7, P⟩ := P
  refine mx_getR (pc := 15) mx_fl_X11_13 g6 rfl g7 (mx_dd dd_X11_formatName 9 (15, .getfield 13, 3) rfl) ?_
  refine mx_iconst (pc := 18) (v := (0 : Int32)) (mx_dd dd_X11_formatName 10 (18, .iconst 0, 1) rfl) (by decide) ?_
  refine mx_cSI (pc := 19) (Y := mY_X11_spell) (As := [.long _, .ref _, .int _]) mx_ml_X11_259 mx_y_X11_spell rfl rfl (by simp [Value.category]) rfl (mx_dd dd_X11_formatName 11 (19, .invokestatic 259, 3) rfl) g1 (by decide) P (fun v2 h3 P => ?_)
  obtain ⟨g8, P⟩ := P
  refine mx_putI (pc := 22) mx_fl_X11_241 g8 rfl (.inl rfl) rfl rfl (mx_dd dd_X11_formatName 12 (22, .putfield 241, 3) rfl) ?_
  have P := P _ rfl
  refine mx_aload_n (pc := 25) 0 (mx_dd dd_X11_formatName 13 (25, .aload_n 0, 1) rfl) rfl rfl ?_
  refine mx_getI (pc := 26) mx_fl_X11_241 g8 rfl (mx_dd dd_X11_formatName 14 (26, .getfield 241, 3) rfl) ?_
  exact mx_ireturn (pc := 29) (mx_dd dd_X11_formatName 15 (29, .ireturn, 1) rfl) rfl rfl P
theorem b_X11_formattedByte {d : Nat} {h : mxH} {Q : mxRes → mxH → Prop} (x0 : Nat) (x1 : Int32)
    (P : ((x1 < 0 → Q (.inl (some (.int (-1 : Int32)))) h) ∧ (¬ x1 < 0 → hpK h x0 = 11 ∧ (((hpI h x0 3) ≤ x1 → Q (.inl (some (.int (-1 : Int32)))) h) ∧ (¬ (hpI h x0 3) ≤ x1 → ((x1 < (80 : Int32) → ∃ b1 : Nat, hpR h x0 2 = some b1 ∧ hpK h b1 = 13 ∧ vp_in x1 (hpZ h b1) ∧ Q (.inl (some (.int ((hpI h b1 x1.toNatClampNeg) &&& (255 : Int32))))) h) ∧ (¬ x1 < (80 : Int32) → Q (.inl (some (.int (-1 : Int32)))) h))))))) : mx_SM mY_X11_formattedByte d [.ref x0, .int x1] h Q := by
  refine mx_SM_of (by decide) (Nat.le_of_ble_eq_true rfl) ?_
  show mx_SX mY_X11_formattedByte d 0 [(0, .ref x0), (1, .int x1)] [] h Q
  refine mx_iload_n (pc := 0) 1 (mx_dd dd_X11_formattedByte 0 (0, .iload_n 1, 1) rfl) rfl rfl ?_
  refine mx_if_lt (pc := 1) 18 (mx_dd dd_X11_formattedByte 1 (1, .ifCond .lt 17, 3) rfl) rfl (fun c1 => ?_) (fun c1 => ?_)
  · have P := P.1 c1
    refine mx_iconst (pc := 18) (v := (-1 : Int32)) (mx_dd dd_X11_formattedByte 9 (18, .iconst (-1), 1) rfl) (by decide) ?_
    exact mx_ireturn (pc := 19) (mx_dd dd_X11_formattedByte 10 (19, .ireturn, 1) rfl) rfl rfl P
  · have P := P.2 c1
    refine mx_iload_n (pc := 4) 1 (mx_dd dd_X11_formattedByte 2 (4, .iload_n 1, 1) rfl) rfl rfl ?_
    refine mx_aload_n (pc := 5) 0 (mx_dd dd_X11_formattedByte 3 (5, .aload_n 0, 1) rfl) rfl rfl ?_
    obtain ⟨g1, P⟩ := P
    refine mx_getI (pc := 6) mx_fl_X11_241 g1 rfl (mx_dd dd_X11_formattedByte 4 (6, .getfield 241, 3) rfl) ?_
    refine mx_icmp_ge (pc := 9) 18 (mx_dd dd_X11_formattedByte 5 (9, .if_icmp .ge 9, 3) rfl) rfl (fun c9 => ?_) (fun c9 => ?_)
    · have P := P.1 c9
      refine mx_iconst (pc := 18) (v := (-1 : Int32)) (mx_dd dd_X11_formattedByte 9 (18, .iconst (-1), 1) rfl) (by decide) ?_
      exact mx_ireturn (pc := 19) (mx_dd dd_X11_formattedByte 10 (19, .ireturn, 1) rfl) rfl rfl P
    · have P := P.2 c9
      refine mx_iload_n (pc := 12) 1 (mx_dd dd_X11_formattedByte 6 (12, .iload_n 1, 1) rfl) rfl rfl ?_
      refine mx_bipush (pc := 13) (v := (80 : Int32)) (mx_dd dd_X11_formattedByte 7 (13, .bipush 80, 2) rfl) (by decide) ?_
      refine mx_icmp_lt (pc := 15) 20 (mx_dd dd_X11_formattedByte 8 (15, .if_icmp .lt 5, 3) rfl) rfl (fun c15 => ?_) (fun c15 => ?_)
      · have P := P.1 c15
        refine mx_aload_n (pc := 20) 0 (mx_dd dd_X11_formattedByte 11 (20, .aload_n 0, 1) rfl) rfl rfl ?_
        obtain ⟨b1, g2, P⟩ := P
        refine mx_getR (pc := 21) mx_fl_X11_13 g1 rfl g2 (mx_dd dd_X11_formattedByte 12 (21, .getfield 13, 3) rfl) ?_
        refine mx_iload_n (pc := 24) 1 (mx_dd dd_X11_formattedByte 13 (24, .iload_n 1, 1) rfl) rfl rfl ?_
        obtain ⟨g3, P⟩ := P
        obtain ⟨g4, P⟩ := P
        refine mx_bald (pc := 25) g3 g4 (mx_dd dd_X11_formattedByte 14 (25, .baload, 1) rfl) ?_
        refine mx_sipush (pc := 26) (v := (255 : Int32)) (mx_dd dd_X11_formattedByte 15 (26, .sipush 255, 3) rfl) (by decide) ?_
        refine mx_iand (pc := 29) (mx_dd dd_X11_formattedByte 16 (29, .iand, 1) rfl) ?_
        exact mx_ireturn (pc := 30) (mx_dd dd_X11_formattedByte 17 (30, .ireturn, 1) rfl) rfl rfl P
      · have P := P.2 c15
        refine mx_iconst (pc := 18) (v := (-1 : Int32)) (mx_dd dd_X11_formattedByte 9 (18, .iconst (-1), 1) rfl) (by decide) ?_
        exact mx_ireturn (pc := 19) (mx_dd dd_X11_formattedByte 10 (19, .ireturn, 1) rfl) rfl rfl P
theorem b_X11_letterValue {d : Nat} {h : mxH} {Q : mxRes → mxH → Prop} (x0 : Int32)
    (P : ((x0 < (97 : Int32) → mx_SX mY_X11_letterValue d 19 [(0, .int x0)] [] h Q) ∧ (¬ x0 < (97 : Int32) → (((122 : Int32) < x0 → mx_SX mY_X11_letterValue d 19 [(0, .int x0)] [] h Q) ∧ (¬ (122 : Int32) < x0 → Q (.inl (some (.int ((x0 - (97 : Int32)) + (1 : Int32))))) h))))) : mx_SM mY_X11_letterValue d [.int x0] h Q := by
  refine mx_SM_of (by decide) (Nat.le_of_ble_eq_true rfl) ?_
  show mx_SX mY_X11_letterValue d 0 [(0, .int x0)] [] h Q
  refine mx_iload_n (pc := 0) 0 (mx_dd dd_X11_letterValue 0 (0, .iload_n 0, 1) rfl) rfl rfl ?_
  refine mx_bipush (pc := 1) (v := (97 : Int32)) (mx_dd dd_X11_letterValue 1 (1, .bipush 97, 2) rfl) (by decide) ?_
  refine mx_icmp_lt (pc := 3) 19 (mx_dd dd_X11_letterValue 2 (3, .if_icmp .lt 16, 3) rfl) rfl (fun c3 => ?_) (fun c3 => ?_)
  · have P := P.1 c3
    exact P
  · have P := P.2 c3
    refine mx_iload_n (pc := 6) 0 (mx_dd dd_X11_letterValue 3 (6, .iload_n 0, 1) rfl) rfl rfl ?_
    refine mx_bipush (pc := 7) (v := (122 : Int32)) (mx_dd dd_X11_letterValue 4 (7, .bipush 122, 2) rfl) (by decide) ?_
    refine mx_icmp_gt (pc := 9) 19 (mx_dd dd_X11_letterValue 5 (9, .if_icmp .gt 10, 3) rfl) rfl (fun c9 => ?_) (fun c9 => ?_)
    · have P := P.1 c9
      exact P
    · have P := P.2 c9
      refine mx_iload_n (pc := 12) 0 (mx_dd dd_X11_letterValue 6 (12, .iload_n 0, 1) rfl) rfl rfl ?_
      refine mx_bipush (pc := 13) (v := (97 : Int32)) (mx_dd dd_X11_letterValue 7 (13, .bipush 97, 2) rfl) (by decide) ?_
      refine mx_isub (pc := 15) (mx_dd dd_X11_letterValue 8 (15, .isub, 1) rfl) ?_
      refine mx_iconst (pc := 16) (v := (1 : Int32)) (mx_dd dd_X11_letterValue 9 (16, .iconst 1, 1) rfl) (by decide) ?_
      refine mx_iadd (pc := 17) (mx_dd dd_X11_letterValue 10 (17, .iadd, 1) rfl) ?_
      exact mx_ireturn (pc := 18) (mx_dd dd_X11_letterValue 11 (18, .ireturn, 1) rfl) rfl rfl P
theorem b_X11_letterValue_19 {d : Nat} {h : mxH} {Q : mxRes → mxH → Prop} (x0 : Int32)
    (P : ((x0 < (48 : Int32) → Q (.inl (some (.int (0 : Int32)))) h) ∧ (¬ x0 < (48 : Int32) → (((57 : Int32) < x0 → Q (.inl (some (.int (0 : Int32)))) h) ∧ (¬ (57 : Int32) < x0 → Q (.inl (some (.int ((x0 - (48 : Int32)) + (27 : Int32))))) h))))) : mx_SX mY_X11_letterValue d 19 [(0, .int x0)] [] h Q := by
  refine mx_iload_n (pc := 19) 0 (mx_dd dd_X11_letterValue 12 (19, .iload_n 0, 1) rfl) rfl rfl ?_
  refine mx_bipush (pc := 20) (v := (48 : Int32)) (mx_dd dd_X11_letterValue 13 (20, .bipush 48, 2) rfl) (by decide) ?_
  refine mx_icmp_lt (pc := 22) 39 (mx_dd dd_X11_letterValue 14 (22, .if_icmp .lt 17, 3) rfl) rfl (fun c22 => ?_) (fun c22 => ?_)
  · have P := P.1 c22
    refine mx_iconst (pc := 39) (v := (0 : Int32)) (mx_dd dd_X11_letterValue 24 (39, .iconst 0, 1) rfl) (by decide) ?_
    exact mx_ireturn (pc := 40) (mx_dd dd_X11_letterValue 25 (40, .ireturn, 1) rfl) rfl rfl P
  · have P := P.2 c22
    refine mx_iload_n (pc := 25) 0 (mx_dd dd_X11_letterValue 15 (25, .iload_n 0, 1) rfl) rfl rfl ?_
    refine mx_bipush (pc := 26) (v := (57 : Int32)) (mx_dd dd_X11_letterValue 16 (26, .bipush 57, 2) rfl) (by decide) ?_
    refine mx_icmp_gt (pc := 28) 39 (mx_dd dd_X11_letterValue 17 (28, .if_icmp .gt 11, 3) rfl) rfl (fun c28 => ?_) (fun c28 => ?_)
    · have P := P.1 c28
      refine mx_iconst (pc := 39) (v := (0 : Int32)) (mx_dd dd_X11_letterValue 24 (39, .iconst 0, 1) rfl) (by decide) ?_
      exact mx_ireturn (pc := 40) (mx_dd dd_X11_letterValue 25 (40, .ireturn, 1) rfl) rfl rfl P
    · have P := P.2 c28
      refine mx_iload_n (pc := 31) 0 (mx_dd dd_X11_letterValue 18 (31, .iload_n 0, 1) rfl) rfl rfl ?_
      refine mx_bipush (pc := 32) (v := (48 : Int32)) (mx_dd dd_X11_letterValue 19 (32, .bipush 48, 2) rfl) (by decide) ?_
      refine mx_isub (pc := 34) (mx_dd dd_X11_letterValue 20 (34, .isub, 1) rfl) ?_
      refine mx_bipush (pc := 35) (v := (27 : Int32)) (mx_dd dd_X11_letterValue 21 (35, .bipush 27, 2) rfl) (by decide) ?_
      refine mx_iadd (pc := 37) (mx_dd dd_X11_letterValue 22 (37, .iadd, 1) rfl) ?_
      exact mx_ireturn (pc := 38) (mx_dd dd_X11_letterValue 23 (38, .ireturn, 1) rfl) rfl rfl P
theorem b_X11_spell {d : Nat} {h : mxH} {Q : mxRes → mxH → Prop} (x0 : Int64) (x2 : Nat) (x3 : Int32)
    (P : mx_SX mY_X11_spell d 6 [(0, .long x0), (2, .ref x2), (3, .int x3), (4, .int (0 : Int32)), (5, .long x0)] [] h Q) : mx_SM mY_X11_spell d [.long x0, .ref x2, .int x3] h Q := by
  refine mx_SM_of (by decide) (Nat.le_of_ble_eq_true rfl) ?_
  show mx_SX mY_X11_spell d 0 [(0, .long x0), (2, .ref x2), (3, .int x3)] [] h Q
  refine mx_iconst (pc := 0) (v := (0 : Int32)) (mx_dd dd_X11_spell_0 0 (0, .iconst 0, 1) rfl) (by decide) ?_
  refine mx_istore (pc := 1) (mx_dd dd_X11_spell_0 1 (1, .istore 4, 2) rfl) (by decide) (lv' := [(4, _), (0, _), (2, _), (3, _)]) rfl ?_
  refine mx_lload_n (pc := 3) 1 (mx_dd dd_X11_spell_0 2 (3, .lload_n 0, 1) rfl) rfl rfl ?_
  refine mx_lstore (pc := 4) (mx_dd dd_X11_spell_0 3 (4, .lstore 5, 2) rfl) (by decide) (lv' := [(5, _), (4, _), (0, _), (2, _), (3, _)]) rfl ?_
  refine mx_sel [2, 3, 4, 1, 0] rfl ?_
  exact P
theorem b_X11_spell_6 {d : Nat} {h : mxH} {Q : mxRes → mxH → Prop} (x0 : Int64) (x2 : Nat) (x3 : Int32) (x4 : Int32) (x5 : Int64)
    (P : (((lg_cmp x5 (0 : Int64)) ≤ 0 → mx_SX mY_X11_spell d 34 [(0, .long x0), (2, .ref x2), (3, .int x3), (4, .int x4)] [] h Q) ∧ (¬ (lg_cmp x5 (0 : Int64)) ≤ 0 → (((12 : Int32) ≤ x4 → mx_SX mY_X11_spell d 34 [(0, .long x0), (2, .ref x2), (3, .int x3), (4, .int x4)] [] h Q) ∧ (¬ (12 : Int32) ≤ x4 → mx_SX mY_X11_spell d 6 [(0, .long x0), (2, .ref x2), (3, .int x3), (4, .int (x4 + (1 : Int32))), (5, .long (x5 / (37 : Int64)))] [] h Q))))) : mx_SX mY_X11_spell d 6 [(0, .long x0), (2, .ref x2), (3, .int x3), (4, .int x4), (5, .long x5)] [] h Q := by
  refine mx_lload (pc := 6) 4 (mx_dd dd_X11_spell_0 4 (6, .lload 5, 2) rfl) rfl ?_
  refine mx_lconst (pc := 8) (v := (0 : Int64)) (mx_dd dd_X11_spell_0 5 (8, .lconst 0, 1) rfl) (by decide) ?_
  refine mx_lcmp (pc := 9) (mx_dd dd_X11_spell_0 6 (9, .lcmp, 1) rfl) ?_
  refine mx_if_le (pc := 10) 34 (mx_dd dd_X11_spell_0 7 (10, .ifCond .le 24, 3) rfl) rfl (fun c10 => ?_) (fun c10 => ?_)
  · have P := P.1 c10
    refine mx_sel [0, 1, 2, 3] rfl ?_
    exact P
  · have P := P.2 c10
    refine mx_iload (pc := 13) 3 (mx_dd dd_X11_spell_0 8 (13, .iload 4, 2) rfl) rfl ?_
    refine mx_bipush (pc := 15) (v := (12 : Int32)) (mx_dd dd_X11_spell_0 9 (15, .bipush 12, 2) rfl) (by decide) ?_
    refine mx_icmp_ge (pc := 17) 34 (mx_dd dd_X11_spell_0 10 (17, .if_icmp .ge 17, 3) rfl) rfl (fun c17 => ?_) (fun c17 => ?_)
    · have P := P.1 c17
      refine mx_sel [0, 1, 2, 3] rfl ?_
      exact P
    · have P := P.2 c17
      refine mx_iinc (pc := 20) 3 (mx_dd dd_X11_spell_0 11 (20, .iinc 4 1, 3) rfl) rfl (mx_kadd (by decide : Int32.ofInt 1 = (1 : Int32))) (by decide) (lv' := [(4, _), (0, _), (2, _), (3, _), (5, _)]) rfl ?_
      refine mx_lload (pc := 23) 4 (mx_dd dd_X11_spell_0 12 (23, .lload 5, 2) rfl) rfl ?_
      refine mx_ldc2 (pc := 25) mx_cL_X11_263 (mx_dd dd_X11_spell_0 13 (25, .ldc2_w 263, 3) rfl) ?_
      refine mx_ldiv (pc := 28) (mx_dd dd_X11_spell_0 14 (28, .ldiv, 1) rfl) (by decide) ?_
      refine mx_lstore (pc := 29) (mx_dd dd_X11_spell_0 15 (29, .lstore 5, 2) rfl) (by decide) (lv' := [(5, _), (4, _), (0, _), (2, _), (3, _)]) rfl ?_
      refine mx_goto (pc := 31) 6 (mx_dd dd_X11_spell_0 16 (31, .goto (-25), 3) rfl) rfl ?_
      refine mx_sel [2, 3, 4, 1, 0] rfl ?_
      exact P
theorem b_X11_spell_34 {d : Nat} {h : mxH} {Q : mxRes → mxH → Prop} (x0 : Int64) (x2 : Nat) (x3 : Int32) (x4 : Int32)
    (P : mx_SX mY_X11_spell d 43 [(2, .ref x2), (3, .int x3), (4, .int x4), (5, .long x0), (7, .int (x4 - (1 : Int32)))] [] h Q) : mx_SX mY_X11_spell d 34 [(0, .long x0), (2, .ref x2), (3, .int x3), (4, .int x4)] [] h Q := by
  refine mx_lload_n (pc := 34) 0 (mx_dd dd_X11_spell_0 17 (34, .lload_n 0, 1) rfl) rfl rfl ?_
  refine mx_lstore (pc := 35) (mx_dd dd_X11_spell_0 18 (35, .lstore 5, 2) rfl) (by decide) (lv' := [(5, _), (0, _), (2, _), (3, _), (4, _)]) rfl ?_
  refine mx_iload (pc := 37) 4 (mx_dd dd_X11_spell_0 19 (37, .iload 4, 2) rfl) rfl ?_
  refine mx_iconst (pc := 39) (v := (1 : Int32)) (mx_dd dd_X11_spell_0 20 (39, .iconst 1, 1) rfl) (by decide) ?_
  refine mx_isub (pc := 40) (mx_dd dd_X11_spell_0 21 (40, .isub, 1) rfl) ?_
  refine mx_istore (pc := 41) (mx_dd dd_X11_spell_0 22 (41, .istore 7, 2) rfl) (by decide) (lv' := [(7, _), (5, _), (0, _), (2, _), (3, _), (4, _)]) rfl ?_
  refine mx_sel [3, 4, 5, 1, 0] rfl ?_
  exact P
theorem b_X11_spell_43 {d : Nat} {h : mxH} {Q : mxRes → mxH → Prop} (x2 : Nat) (x3 : Int32) (x4 : Int32) (x5 : Int64) (x7 : Int32)
    (P : ((x7 < 0 → hpK h x2 = 13 ∧ 1 ≤ d ∧ Q (.inl (some (.int (if (nI (hpZ h x2)) < (x3 + x4) then (nI (hpZ h x2)) else (x3 + x4))))) h) ∧ (¬ x7 < 0 → (((x3 + x7) < 0 → mx_SX mY_X11_spell d 105 [(2, .ref x2), (3, .int x3), (4, .int x4), (5, .long x5), (7, .int x7)] [] h Q) ∧ (¬ (x3 + x7) < 0 → hpK h x2 = 13 ∧ (((nI (hpZ h x2)) ≤ (x3 + x7) → mx_SX mY_X11_spell d 105 [(2, .ref x2), (3, .int x3), (4, .int x4), (5, .long x5), (7, .int x7)] [] h Q) ∧ (¬ (nI (hpZ h x2)) ≤ (x3 + x7) → (((26 : Int32) < ((x5 - x5 / (37 : Int64) * (37 : Int64)).toInt32) → vp_in (x3 + x7) (hpZ h x2) ∧ ∀ h1 : mxH, h1 = hsI h x2 (x3 + x7).toNatClampNeg (((((x5 - x5 / (37 : Int64) * (37 : Int64)).toInt32) + (48 : Int32)) - (27 : Int32)).toInt8.toInt32).toInt8.toInt32 → mx_SX mY_X11_spell d 105 [(2, .ref x2), (3, .int x3), (4, .int x4), (5, .long x5), (7, .int x7)] [] h1 Q) ∧ (¬ (26 : Int32) < ((x5 - x5 / (37 : Int64) * (37 : Int64)).toInt32) → vp_in (x3 + x7) (hpZ h x2) ∧ ∀ h2 : mxH, h2 = hsI h x2 (x3 + x7).toNatClampNeg (((((x5 - x5 / (37 : Int64) * (37 : Int64)).toInt32) + (97 : Int32)) - (1 : Int32)).toInt8.toInt32).toInt8.toInt32 → mx_SX mY_X11_spell d 105 [(2, .ref x2), (3, .int x3), (4, .int x4), (5, .long x5), (7, .int x7)] [] h2 Q))))))))) : mx_SX mY_X11_spell d 43 [(2, .ref x2), (3, .int x3), (4, .int x4), (5, .long x5), (7, .int x7)] [] h Q := by
  refine mx_iload (pc := 43) 4 (mx_dd dd_X11_spell_0 23 (43, .iload 7, 2) rfl) rfl ?_
  refine mx_if_lt (pc := 45) 119 (mx_dd dd_X11_spell_0 24 (45, .ifCond .lt 74, 3) rfl) rfl (fun c45 => ?_) (fun c45 => ?_)
  · have P := P.1 c45
    refine mx_iload_n (pc := 119) 1 (mx_dd dd_X11_spell_1 24 (119, .iload_n 3, 1) rfl) rfl rfl ?_
    refine mx_iload (pc := 120) 2 (mx_dd dd_X11_spell_1 25 (120, .iload 4, 2) rfl) rfl ?_
    refine mx_iadd (pc := 122) (mx_dd dd_X11_spell_1 26 (122, .iadd, 1) rfl) ?_
    refine mx_aload_n (pc := 123) 0 (mx_dd dd_X11_spell_1 27 (123, .aload_n 2, 1) rfl) rfl rfl ?_
    obtain ⟨g1, P⟩ := P
    refine mx_alen (pc := 124) g1 (by decide) (mx_dd dd_X11_spell_1 28 (124, .arraylength, 1) rfl) ?_
    obtain ⟨g2, P⟩ := P
    refine mx_min (pc := 125) mx_mm_X11_265 mx_mmins mx_mini mx_mminc (by decide) (mx_dd dd_X11_spell_1 29 (125, .invokestatic 265, 3) rfl) g2 ?_
    exact mx_ireturn (pc := 128) (mx_dd dd_X11_spell_1 30 (128, .ireturn, 1) rfl) rfl rfl P
  · have P := P.2 c45
    refine mx_lload (pc := 48) 3 (mx_dd dd_X11_spell_0 25 (48, .lload 5, 2) rfl) rfl ?_
    refine mx_ldc2 (pc := 50) mx_cL_X11_263 (mx_dd dd_X11_spell_0 26 (50, .ldc2_w 263, 3) rfl) ?_
    refine mx_lrem (pc := 53) (mx_dd dd_X11_spell_0 27 (53, .lrem, 1) rfl) (by decide) ?_
    refine mx_l2i (pc := 54) (mx_dd dd_X11_spell_0 28 (54, .l2i, 1) rfl) ?_
    refine mx_istore (pc := 55) (mx_dd dd_X11_spell_0 29 (55, .istore 8, 2) rfl) (by decide) (lv' := [(8, _), (2, _), (3, _), (4, _), (5, _), (7, _)]) rfl ?_
    refine mx_iload_n (pc := 57) 2 (mx_dd dd_X11_spell_0 30 (57, .iload_n 3, 1) rfl) rfl rfl ?_
    refine mx_iload (pc := 58) 5 (mx_dd dd_X11_spell_0 31 (58, .iload 7, 2) rfl) rfl ?_
    refine mx_iadd (pc := 60) (mx_dd dd_X11_spell_0 32 (60, .iadd, 1) rfl) ?_
    refine mx_istore (pc := 61) (mx_dd dd_X11_spell_0 33 (61, .istore 9, 2) rfl) (by decide) (lv' := [(9, _), (8, _), (2, _), (3, _), (4, _), (5, _), (7, _)]) rfl ?_
    refine mx_iload (pc := 63) 0 (mx_dd dd_X11_spell_0 34 (63, .iload 9, 2) rfl) rfl ?_
    refine mx_if_lt (pc := 65) 105 (mx_dd dd_X11_spell_0 35 (65, .ifCond .lt 40, 3) rfl) rfl (fun c65 => ?_) (fun c65 => ?_)
    · have P := P.1 c65
      refine mx_sel [2, 3, 4, 5, 6] rfl ?_
      exact P
    · have P := P.2 c65
      refine mx_iload (pc := 68) 0 (mx_dd dd_X11_spell_0 36 (68, .iload 9, 2) rfl) rfl ?_
      refine mx_aload_n (pc := 70) 2 (mx_dd dd_X11_spell_0 37 (70, .aload_n 2, 1) rfl) rfl rfl ?_
      obtain ⟨g3, P⟩ := P
      refine mx_alen (pc := 71) g3 (by decide) (mx_dd dd_X11_spell_0 38 (71, .arraylength, 1) rfl) ?_
      refine mx_icmp_ge (pc := 72) 105 (mx_dd dd_X11_spell_0 39 (72, .if_icmp .ge 33, 3) rfl) rfl (fun c72 => ?_) (fun c72 => ?_)
      · have P := P.1 c72
        refine mx_sel [2, 3, 4, 5, 6] rfl ?_
        exact P
      · have P := P.2 c72
        refine mx_aload_n (pc := 75) 2 (mx_dd dd_X11_spell_1 0 (75, .aload_n 2, 1) rfl) rfl rfl ?_
        refine mx_iload (pc := 76) 0 (mx_dd dd_X11_spell_1 1 (76, .iload 9, 2) rfl) rfl ?_
        refine mx_iload (pc := 78) 1 (mx_dd dd_X11_spell_1 2 (78, .iload 8, 2) rfl) rfl ?_
        refine mx_bipush (pc := 80) (v := (26 : Int32)) (mx_dd dd_X11_spell_1 3 (80, .bipush 26, 2) rfl) (by decide) ?_
        refine mx_icmp_gt (pc := 82) 95 (mx_dd dd_X11_spell_1 4 (82, .if_icmp .gt 13, 3) rfl) rfl (fun c82 => ?_) (fun c82 => ?_)
        · have P := P.1 c82
          refine mx_iload (pc := 95) 1 (mx_dd dd_X11_spell_1 11 (95, .iload 8, 2) rfl) rfl ?_
          refine mx_bipush (pc := 97) (v := (48 : Int32)) (mx_dd dd_X11_spell_1 12 (97, .bipush 48, 2) rfl) (by decide) ?_
          refine mx_iadd (pc := 99) (mx_dd dd_X11_spell_1 13 (99, .iadd, 1) rfl) ?_
          refine mx_bipush (pc := 100) (v := (27 : Int32)) (mx_dd dd_X11_spell_1 14 (100, .bipush 27, 2) rfl) (by decide) ?_
          refine mx_isub (pc := 102) (mx_dd dd_X11_spell_1 15 (102, .isub, 1) rfl) ?_
          refine mx_i2b (pc := 103) (mx_dd dd_X11_spell_1 16 (103, .i2b, 1) rfl) ?_
          obtain ⟨g4, P⟩ := P
          refine mx_bast (pc := 104) g3 g4 (mx_dd dd_X11_spell_1 17 (104, .bastore, 1) rfl) ?_
          have P := P _ rfl
          refine mx_sel [2, 3, 4, 5, 6] rfl ?_
          exact P
        · have P := P.2 c82
          refine mx_iload (pc := 85) 1 (mx_dd dd_X11_spell_1 5 (85, .iload 8, 2) rfl) rfl ?_
          refine mx_bipush (pc := 87) (v := (97 : Int32)) (mx_dd dd_X11_spell_1 6 (87, .bipush 97, 2) rfl) (by decide) ?_
          refine mx_iadd (pc := 89) (mx_dd dd_X11_spell_1 7 (89, .iadd, 1) rfl) ?_
          refine mx_iconst (pc := 90) (v := (1 : Int32)) (mx_dd dd_X11_spell_1 8 (90, .iconst 1, 1) rfl) (by decide) ?_
          refine mx_isub (pc := 91) (mx_dd dd_X11_spell_1 9 (91, .isub, 1) rfl) ?_
          refine mx_goto (pc := 92) 103 (mx_dd dd_X11_spell_1 10 (92, .goto 11, 3) rfl) rfl ?_
          refine mx_i2b (pc := 103) (mx_dd dd_X11_spell_1 16 (103, .i2b, 1) rfl) ?_
          obtain ⟨g5, P⟩ := P
          refine mx_bast (pc := 104) g3 g5 (mx_dd dd_X11_spell_1 17 (104, .bastore, 1) rfl) ?_
          have P := P _ rfl
          refine mx_sel [2, 3, 4, 5, 6] rfl ?_
          exact P
theorem b_X11_spell_105 {d : Nat} {h : mxH} {Q : mxRes → mxH → Prop} (x2 : Nat) (x3 : Int32) (x4 : Int32) (x5 : Int64) (x7 : Int32)
    (P : mx_SX mY_X11_spell d 43 [(2, .ref x2), (3, .int x3), (4, .int x4), (5, .long (x5 / (37 : Int64))), (7, .int (x7 + (-1 : Int32)))] [] h Q) : mx_SX mY_X11_spell d 105 [(2, .ref x2), (3, .int x3), (4, .int x4), (5, .long x5), (7, .int x7)] [] h Q := by
  refine mx_lload (pc := 105) 3 (mx_dd dd_X11_spell_1 18 (105, .lload 5, 2) rfl) rfl ?_
  refine mx_ldc2 (pc := 107) mx_cL_X11_263 (mx_dd dd_X11_spell_1 19 (107, .ldc2_w 263, 3) rfl) ?_
  refine mx_ldiv (pc := 110) (mx_dd dd_X11_spell_1 20 (110, .ldiv, 1) rfl) (by decide) ?_
  refine mx_lstore (pc := 111) (mx_dd dd_X11_spell_1 21 (111, .lstore 5, 2) rfl) (by decide) (lv' := [(5, _), (2, _), (3, _), (4, _), (7, _)]) rfl ?_
  refine mx_iinc (pc := 113) 4 (mx_dd dd_X11_spell_1 22 (113, .iinc 7 (-1), 3) rfl) rfl (mx_kadd (by decide : Int32.ofInt (-1) = (-1 : Int32))) (by decide) (lv' := [(7, _), (5, _), (2, _), (3, _), (4, _)]) rfl ?_
  refine mx_goto (pc := 116) 43 (mx_dd dd_X11_spell_1 23 (116, .goto (-73), 3) rfl) rfl ?_
  refine mx_sel [2, 3, 4, 1, 0] rfl ?_
  exact P
theorem b_X11_nameIn {d : Nat} {h : mxH} {Q : mxRes → mxH → Prop} (x0 : Nat) (x1 : Int32)
    (P : ((x1 < (1 : Int32) → Q (.inl (some (.long (0 : Int64)))) h) ∧ (¬ x1 < (1 : Int32) → (((12 : Int32) < x1 → Q (.inl (some (.long (0 : Int64)))) h) ∧ (¬ (12 : Int32) < x1 → hpK h x0 = 13 ∧ ((x1 ≤ (nI (hpZ h x0)) → mx_SX mY_X11_nameIn d 24 [(0, .ref x0), (1, .int x1), (2, .long (0 : Int64)), (4, .int (0 : Int32))] [] h Q) ∧ (¬ x1 ≤ (nI (hpZ h x0)) → Q (.inl (some (.long (0 : Int64)))) h))))))) : mx_SM mY_X11_nameIn d [.ref x0, .int x1] h Q := by
  refine mx_SM_of (by decide) (Nat.le_of_ble_eq_true rfl) ?_
  show mx_SX mY_X11_nameIn d 0 [(0, .ref x0), (1, .int x1)] [] h Q
  refine mx_iload_n (pc := 0) 1 (mx_dd dd_X11_nameIn 0 (0, .iload_n 1, 1) rfl) rfl rfl ?_
  refine mx_iconst (pc := 1) (v := (1 : Int32)) (mx_dd dd_X11_nameIn 1 (1, .iconst 1, 1) rfl) (by decide) ?_
  refine mx_icmp_lt (pc := 2) 17 (mx_dd dd_X11_nameIn 2 (2, .if_icmp .lt 15, 3) rfl) rfl (fun c2 => ?_) (fun c2 => ?_)
  · have P := P.1 c2
    refine mx_lconst (pc := 17) (v := (0 : Int64)) (mx_dd dd_X11_nameIn 10 (17, .lconst 0, 1) rfl) (by decide) ?_
    exact mx_lreturn (pc := 18) (mx_dd dd_X11_nameIn 11 (18, .lreturn, 1) rfl) rfl P
  · have P := P.2 c2
    refine mx_iload_n (pc := 5) 1 (mx_dd dd_X11_nameIn 3 (5, .iload_n 1, 1) rfl) rfl rfl ?_
    refine mx_bipush (pc := 6) (v := (12 : Int32)) (mx_dd dd_X11_nameIn 4 (6, .bipush 12, 2) rfl) (by decide) ?_
    refine mx_icmp_gt (pc := 8) 17 (mx_dd dd_X11_nameIn 5 (8, .if_icmp .gt 9, 3) rfl) rfl (fun c8 => ?_) (fun c8 => ?_)
    · have P := P.1 c8
      refine mx_lconst (pc := 17) (v := (0 : Int64)) (mx_dd dd_X11_nameIn 10 (17, .lconst 0, 1) rfl) (by decide) ?_
      exact mx_lreturn (pc := 18) (mx_dd dd_X11_nameIn 11 (18, .lreturn, 1) rfl) rfl P
    · have P := P.2 c8
      refine mx_iload_n (pc := 11) 1 (mx_dd dd_X11_nameIn 6 (11, .iload_n 1, 1) rfl) rfl rfl ?_
      refine mx_aload_n (pc := 12) 0 (mx_dd dd_X11_nameIn 7 (12, .aload_n 0, 1) rfl) rfl rfl ?_
      obtain ⟨g1, P⟩ := P
      refine mx_alen (pc := 13) g1 (by decide) (mx_dd dd_X11_nameIn 8 (13, .arraylength, 1) rfl) ?_
      refine mx_icmp_le (pc := 14) 19 (mx_dd dd_X11_nameIn 9 (14, .if_icmp .le 5, 3) rfl) rfl (fun c14 => ?_) (fun c14 => ?_)
      · have P := P.1 c14
        refine mx_lconst (pc := 19) (v := (0 : Int64)) (mx_dd dd_X11_nameIn 12 (19, .lconst 0, 1) rfl) (by decide) ?_
        refine mx_lstore_n (pc := 20) (mx_dd dd_X11_nameIn 13 (20, .lstore_n 2, 1) rfl) rfl (by decide) (lv' := [(2, _), (0, _), (1, _)]) rfl ?_
        refine mx_iconst (pc := 21) (v := (0 : Int32)) (mx_dd dd_X11_nameIn 14 (21, .iconst 0, 1) rfl) (by decide) ?_
        refine mx_istore (pc := 22) (mx_dd dd_X11_nameIn 15 (22, .istore 4, 2) rfl) (by decide) (lv' := [(4, _), (2, _), (0, _), (1, _)]) rfl ?_
        refine mx_sel [2, 3, 1, 0] rfl ?_
        exact P
      · have P := P.2 c14
        refine mx_lconst (pc := 17) (v := (0 : Int64)) (mx_dd dd_X11_nameIn 10 (17, .lconst 0, 1) rfl) (by decide) ?_
        exact mx_lreturn (pc := 18) (mx_dd dd_X11_nameIn 11 (18, .lreturn, 1) rfl) rfl P
theorem b_X11_nameIn_24 {d : Nat} {h : mxH} {Q : mxRes → mxH → Prop} (x0 : Nat) (x1 : Int32) (x2 : Int64) (x4 : Int32)
    (P : ((x1 ≤ x4 → Q (.inl (some (.long x2))) h) ∧ (¬ x1 ≤ x4 → hpK h x0 = 13 ∧ vp_in x4 (hpZ h x0) ∧ 1 ≤ d ∧ mx_SM mY_X11_letterValue (d - 1) [.int (hpI h x0 x4.toNatClampNeg)] h (mx_KI (fun v1 h1 => ((¬ v1 = 0 → mx_SX mY_X11_nameIn d 24 [(0, .ref x0), (1, .int x1), (2, .long (((37 : Int64) * x2) + (v1.toInt64))), (4, .int (x4 + (1 : Int32)))] [] h1 Q) ∧ (v1 = 0 → Q (.inl (some (.long (0 : Int64)))) h1))) (mx_XX mY_X11_nameIn Q))))) : mx_SX mY_X11_nameIn d 24 [(0, .ref x0), (1, .int x1), (2, .long x2), (4, .int x4)] [] h Q := by
  refine mx_iload (pc := 24) 3 (mx_dd dd_X11_nameIn 16 (24, .iload 4, 2) rfl) rfl ?_
  refine mx_iload_n (pc := 26) 1 (mx_dd dd_X11_nameIn 17 (26, .iload_n 1, 1) rfl) rfl rfl ?_
  refine mx_icmp_ge (pc := 27) 62 (mx_dd dd_X11_nameIn 18 (27, .if_icmp .ge 35, 3) rfl) rfl (fun c27 => ?_) (fun c27 => ?_)
  · have P := P.1 c27
    refine mx_lload_n (pc := 62) 2 (mx_dd dd_X11_nameIn 37 (62, .lload_n 2, 1) rfl) rfl rfl ?_
    exact mx_lreturn (pc := 63) (mx_dd dd_X11_nameIn 38 (63, .lreturn, 1) rfl) rfl P
  · have P := P.2 c27
    refine mx_aload_n (pc := 30) 0 (mx_dd dd_X11_nameIn 19 (30, .aload_n 0, 1) rfl) rfl rfl ?_
    refine mx_iload (pc := 31) 3 (mx_dd dd_X11_nameIn 20 (31, .iload 4, 2) rfl) rfl ?_
    obtain ⟨g1, P⟩ := P
    obtain ⟨g2, P⟩ := P
    refine mx_bald (pc := 33) g1 g2 (mx_dd dd_X11_nameIn 21 (33, .baload, 1) rfl) ?_
    obtain ⟨g3, P⟩ := P
    refine mx_cSI (pc := 34) (Y := mY_X11_letterValue) (As := [.int _]) mx_ml_X11_270 mx_y_X11_letterValue rfl rfl (by decide) rfl (mx_dd dd_X11_nameIn 22 (34, .invokestatic 270, 3) rfl) g3 (by decide) P (fun v1 h1 P => ?_)
    refine mx_istore (pc := 37) (mx_dd dd_X11_nameIn 23 (37, .istore 5, 2) rfl) (by decide) (lv' := [(5, _), (0, _), (1, _), (2, _), (4, _)]) rfl ?_
    refine mx_iload (pc := 39) 0 (mx_dd dd_X11_nameIn 24 (39, .iload 5, 2) rfl) rfl ?_
    refine mx_if_ne (pc := 41) 46 (mx_dd dd_X11_nameIn 25 (41, .ifCond .ne 5, 3) rfl) rfl (fun c41 => ?_) (fun c41 => ?_)
    · have P := P.1 c41
      refine mx_ldc2 (pc := 46) mx_cL_X11_263 (mx_dd dd_X11_nameIn 28 (46, .ldc2_w 263, 3) rfl) ?_
      refine mx_lload_n (pc := 49) 3 (mx_dd dd_X11_nameIn 29 (49, .lload_n 2, 1) rfl) rfl rfl ?_
      refine mx_lmul (pc := 50) (mx_dd dd_X11_nameIn 30 (50, .lmul, 1) rfl) ?_
      refine mx_iload (pc := 51) 0 (mx_dd dd_X11_nameIn 31 (51, .iload 5, 2) rfl) rfl ?_
      refine mx_i2l (pc := 53) (mx_dd dd_X11_nameIn 32 (53, .i2l, 1) rfl) ?_
      refine mx_ladd (pc := 54) (mx_dd dd_X11_nameIn 33 (54, .ladd, 1) rfl) ?_
      refine mx_lstore_n (pc := 55) (mx_dd dd_X11_nameIn 34 (55, .lstore_n 2, 1) rfl) rfl (by decide) (lv' := [(2, _), (5, _), (0, _), (1, _), (4, _)]) rfl ?_
      refine mx_iinc (pc := 56) 4 (mx_dd dd_X11_nameIn 35 (56, .iinc 4 1, 3) rfl) rfl (mx_kadd (by decide : Int32.ofInt 1 = (1 : Int32))) (by decide) (lv' := [(4, _), (2, _), (5, _), (0, _), (1, _)]) rfl ?_
      refine mx_goto (pc := 59) 24 (mx_dd dd_X11_nameIn 36 (59, .goto (-35), 3) rfl) rfl ?_
      refine mx_sel [3, 4, 1, 0] rfl ?_
      exact P
    · have P := P.2 c41
      refine mx_lconst (pc := 44) (v := (0 : Int64)) (mx_dd dd_X11_nameIn 26 (44, .lconst 0, 1) rfl) (by decide) ?_
      exact mx_lreturn (pc := 45) (mx_dd dd_X11_nameIn 27 (45, .lreturn, 1) rfl) rfl P
theorem b_X11_numberIn {d : Nat} {h : mxH} {Q : mxRes → mxH → Prop} (x0 : Nat) (x1 : Int32)
    (P : ((x1 < (1 : Int32) → Q (.inl (some (.int (-1 : Int32)))) h) ∧ (¬ x1 < (1 : Int32) → (((5 : Int32) < x1 → Q (.inl (some (.int (-1 : Int32)))) h) ∧ (¬ (5 : Int32) < x1 → hpK h x0 = 13 ∧ ((x1 ≤ (nI (hpZ h x0)) → mx_SX mY_X11_numberIn d 22 [(0, .ref x0), (1, .int x1), (2, .int (0 : Int32)), (3, .int (0 : Int32))] [] h Q) ∧ (¬ x1 ≤ (nI (hpZ h x0)) → Q (.inl (some (.int (-1 : Int32)))) h))))))) : mx_SM mY_X11_numberIn d [.ref x0, .int x1] h Q := by
  refine mx_SM_of (by decide) (Nat.le_of_ble_eq_true rfl) ?_
  show mx_SX mY_X11_numberIn d 0 [(0, .ref x0), (1, .int x1)] [] h Q
  refine mx_iload_n (pc := 0) 1 (mx_dd dd_X11_numberIn 0 (0, .iload_n 1, 1) rfl) rfl rfl ?_
  refine mx_iconst (pc := 1) (v := (1 : Int32)) (mx_dd dd_X11_numberIn 1 (1, .iconst 1, 1) rfl) (by decide) ?_
  refine mx_icmp_lt (pc := 2) 16 (mx_dd dd_X11_numberIn 2 (2, .if_icmp .lt 14, 3) rfl) rfl (fun c2 => ?_) (fun c2 => ?_)
  · have P := P.1 c2
    refine mx_iconst (pc := 16) (v := (-1 : Int32)) (mx_dd dd_X11_numberIn 10 (16, .iconst (-1), 1) rfl) (by decide) ?_
    exact mx_ireturn (pc := 17) (mx_dd dd_X11_numberIn 11 (17, .ireturn, 1) rfl) rfl rfl P
  · have P := P.2 c2
    refine mx_iload_n (pc := 5) 1 (mx_dd dd_X11_numberIn 3 (5, .iload_n 1, 1) rfl) rfl rfl ?_
    refine mx_iconst (pc := 6) (v := (5 : Int32)) (mx_dd dd_X11_numberIn 4 (6, .iconst 5, 1) rfl) (by decide) ?_
    refine mx_icmp_gt (pc := 7) 16 (mx_dd dd_X11_numberIn 5 (7, .if_icmp .gt 9, 3) rfl) rfl (fun c7 => ?_) (fun c7 => ?_)
    · have P := P.1 c7
      refine mx_iconst (pc := 16) (v := (-1 : Int32)) (mx_dd dd_X11_numberIn 10 (16, .iconst (-1), 1) rfl) (by decide) ?_
      exact mx_ireturn (pc := 17) (mx_dd dd_X11_numberIn 11 (17, .ireturn, 1) rfl) rfl rfl P
    · have P := P.2 c7
      refine mx_iload_n (pc := 10) 1 (mx_dd dd_X11_numberIn 6 (10, .iload_n 1, 1) rfl) rfl rfl ?_
      refine mx_aload_n (pc := 11) 0 (mx_dd dd_X11_numberIn 7 (11, .aload_n 0, 1) rfl) rfl rfl ?_
      obtain ⟨g1, P⟩ := P
      refine mx_alen (pc := 12) g1 (by decide) (mx_dd dd_X11_numberIn 8 (12, .arraylength, 1) rfl) ?_
      refine mx_icmp_le (pc := 13) 18 (mx_dd dd_X11_numberIn 9 (13, .if_icmp .le 5, 3) rfl) rfl (fun c13 => ?_) (fun c13 => ?_)
      · have P := P.1 c13
        refine mx_iconst (pc := 18) (v := (0 : Int32)) (mx_dd dd_X11_numberIn 12 (18, .iconst 0, 1) rfl) (by decide) ?_
        refine mx_istore_n (pc := 19) (mx_dd dd_X11_numberIn 13 (19, .istore_n 2, 1) rfl) rfl (by decide) (lv' := [(2, _), (0, _), (1, _)]) rfl ?_
        refine mx_iconst (pc := 20) (v := (0 : Int32)) (mx_dd dd_X11_numberIn 14 (20, .iconst 0, 1) rfl) (by decide) ?_
        refine mx_istore_n (pc := 21) (mx_dd dd_X11_numberIn 15 (21, .istore_n 3, 1) rfl) rfl (by decide) (lv' := [(3, _), (2, _), (0, _), (1, _)]) rfl ?_
        refine mx_sel [2, 3, 1, 0] rfl ?_
        exact P
      · have P := P.2 c13
        refine mx_iconst (pc := 16) (v := (-1 : Int32)) (mx_dd dd_X11_numberIn 10 (16, .iconst (-1), 1) rfl) (by decide) ?_
        exact mx_ireturn (pc := 17) (mx_dd dd_X11_numberIn 11 (17, .ireturn, 1) rfl) rfl rfl P
theorem b_X11_numberIn_22 {d : Nat} {h : mxH} {Q : mxRes → mxH → Prop} (x0 : Nat) (x1 : Int32) (x2 : Int32) (x3 : Int32)
    (P : ((x1 ≤ x3 → Q (.inl (some (.int x2))) h) ∧ (¬ x1 ≤ x3 → hpK h x0 = 13 ∧ vp_in x3 (hpZ h x0) ∧ ((((hpI h x0 x3.toNatClampNeg) - (48 : Int32)) < 0 → Q (.inl (some (.int (-1 : Int32)))) h) ∧ (¬ ((hpI h x0 x3.toNatClampNeg) - (48 : Int32)) < 0 → ((((hpI h x0 x3.toNatClampNeg) - (48 : Int32)) ≤ (9 : Int32) → mx_SX mY_X11_numberIn d 22 [(0, .ref x0), (1, .int x1), (2, .int (((10 : Int32) * x2) + ((hpI h x0 x3.toNatClampNeg) - (48 : Int32)))), (3, .int (x3 + (1 : Int32)))] [] h Q) ∧ (¬ ((hpI h x0 x3.toNatClampNeg) - (48 : Int32)) ≤ (9 : Int32) → Q (.inl (some (.int (-1 : Int32)))) h))))))) : mx_SX mY_X11_numberIn d 22 [(0, .ref x0), (1, .int x1), (2, .int x2), (3, .int x3)] [] h Q := by
  refine mx_iload_n (pc := 22) 3 (mx_dd dd_X11_numberIn 16 (22, .iload_n 3, 1) rfl) rfl rfl ?_
  refine mx_iload_n (pc := 23) 1 (mx_dd dd_X11_numberIn 17 (23, .iload_n 1, 1) rfl) rfl rfl ?_
  refine mx_icmp_ge (pc := 24) 63 (mx_dd dd_X11_numberIn 18 (24, .if_icmp .ge 39, 3) rfl) rfl (fun c24 => ?_) (fun c24 => ?_)
  · have P := P.1 c24
    refine mx_iload_n (pc := 63) 2 (mx_dd dd_X11_numberIn 40 (63, .iload_n 2, 1) rfl) rfl rfl ?_
    exact mx_ireturn (pc := 64) (mx_dd dd_X11_numberIn 41 (64, .ireturn, 1) rfl) rfl rfl P
  · have P := P.2 c24
    refine mx_aload_n (pc := 27) 0 (mx_dd dd_X11_numberIn 19 (27, .aload_n 0, 1) rfl) rfl rfl ?_
    refine mx_iload_n (pc := 28) 3 (mx_dd dd_X11_numberIn 20 (28, .iload_n 3, 1) rfl) rfl rfl ?_
    obtain ⟨g1, P⟩ := P
    obtain ⟨g2, P⟩ := P
    refine mx_bald (pc := 29) g1 g2 (mx_dd dd_X11_numberIn 21 (29, .baload, 1) rfl) ?_
    refine mx_bipush (pc := 30) (v := (48 : Int32)) (mx_dd dd_X11_numberIn 22 (30, .bipush 48, 2) rfl) (by decide) ?_
    refine mx_isub (pc := 32) (mx_dd dd_X11_numberIn 23 (32, .isub, 1) rfl) ?_
    refine mx_istore (pc := 33) (mx_dd dd_X11_numberIn 24 (33, .istore 4, 2) rfl) (by decide) (lv' := [(4, _), (0, _), (1, _), (2, _), (3, _)]) rfl ?_
    refine mx_iload (pc := 35) 0 (mx_dd dd_X11_numberIn 25 (35, .iload 4, 2) rfl) rfl ?_
    refine mx_if_lt (pc := 37) 47 (mx_dd dd_X11_numberIn 26 (37, .ifCond .lt 10, 3) rfl) rfl (fun c37 => ?_) (fun c37 => ?_)
    · have P := P.1 c37
      refine mx_iconst (pc := 47) (v := (-1 : Int32)) (mx_dd dd_X11_numberIn 30 (47, .iconst (-1), 1) rfl) (by decide) ?_
      exact mx_ireturn (pc := 48) (mx_dd dd_X11_numberIn 31 (48, .ireturn, 1) rfl) rfl rfl P
    · have P := P.2 c37
      refine mx_iload (pc := 40) 0 (mx_dd dd_X11_numberIn 27 (40, .iload 4, 2) rfl) rfl ?_
      refine mx_bipush (pc := 42) (v := (9 : Int32)) (mx_dd dd_X11_numberIn 28 (42, .bipush 9, 2) rfl) (by decide) ?_
      refine mx_icmp_le (pc := 44) 49 (mx_dd dd_X11_numberIn 29 (44, .if_icmp .le 5, 3) rfl) rfl (fun c44 => ?_) (fun c44 => ?_)
      · have P := P.1 c44
        refine mx_bipush (pc := 49) (v := (10 : Int32)) (mx_dd dd_X11_numberIn 32 (49, .bipush 10, 2) rfl) (by decide) ?_
        refine mx_iload_n (pc := 51) 3 (mx_dd dd_X11_numberIn 33 (51, .iload_n 2, 1) rfl) rfl rfl ?_
        refine mx_imul (pc := 52) (mx_dd dd_X11_numberIn 34 (52, .imul, 1) rfl) ?_
        refine mx_iload (pc := 53) 0 (mx_dd dd_X11_numberIn 35 (53, .iload 4, 2) rfl) rfl ?_
        refine mx_iadd (pc := 55) (mx_dd dd_X11_numberIn 36 (55, .iadd, 1) rfl) ?_
        refine mx_istore_n (pc := 56) (mx_dd dd_X11_numberIn 37 (56, .istore_n 2, 1) rfl) rfl (by decide) (lv' := [(2, _), (4, _), (0, _), (1, _), (3, _)]) rfl ?_
        refine mx_iinc (pc := 57) 4 (mx_dd dd_X11_numberIn 38 (57, .iinc 3 1, 3) rfl) rfl (mx_kadd (by decide : Int32.ofInt 1 = (1 : Int32))) (by decide) (lv' := [(3, _), (2, _), (4, _), (0, _), (1, _)]) rfl ?_
        refine mx_goto (pc := 60) 22 (mx_dd dd_X11_numberIn 39 (60, .goto (-38), 3) rfl) rfl ?_
        refine mx_sel [3, 4, 1, 0] rfl ?_
        exact P
      · have P := P.2 c44
        refine mx_iconst (pc := 47) (v := (-1 : Int32)) (mx_dd dd_X11_numberIn 30 (47, .iconst (-1), 1) rfl) (by decide) ?_
        exact mx_ireturn (pc := 48) (mx_dd dd_X11_numberIn 31 (48, .ireturn, 1) rfl) rfl rfl P
