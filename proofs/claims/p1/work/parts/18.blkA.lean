/-! PRINTED by wip/whole/genblocks.py: the blocks of the methods of X9,X3,X2,X0,X5,X8 -/
theorem b_X0_init {d : Nat} {h : mxH} {Q : mxRes → mxH → Prop} (x0 : Nat)
    (P : 1 ≤ d ∧ ∀ (b1 : Nat) (h1 : mxH), b1 = hpN h → h1 = hnw h 14 302 302 → hpK h1 x0 = 0 ∧ ∀ h2 : mxH, h2 = hsR h1 x0 1 (some b1) → ∀ (b2 : Nat) (h3 : mxH), b2 = hpN h2 → h3 = hnw h2 14 302 302 → hpK h3 x0 = 0 ∧ ∀ h4 : mxH, h4 = hsR h3 x0 2 (some b2) → ∀ (b3 : Nat) (h5 : mxH), b3 = hpN h4 → h5 = hnw h4 14 12040 12040 → hpK h5 x0 = 0 ∧ ∀ h6 : mxH, h6 = hsR h5 x0 4 (some b3) → ∀ (b4 : Nat) (h7 : mxH), b4 = hpN h6 → h7 = hnw h6 14 12040 12040 → hpK h7 x0 = 0 ∧ ∀ h8 : mxH, h8 = hsR h7 x0 5 (some b4) → ∀ h9 : mxH, h9 = hsI h8 x0 7 (-1 : Int32) → Q (.inl none) h9) : mx_SM mY_X0_init d [.ref x0] h Q := by
  refine mx_SM_of (by decide) (Nat.le_of_ble_eq_true rfl) ?_
  show mx_SX mY_X0_init d 0 [(0, .ref x0)] [] h Q
  refine mx_aload_n (pc := 0) 0 (mx_dd dd_X0_init 0 (0, .aload_n 0, 1) rfl) rfl rfl ?_
  obtain ⟨g1, P⟩ := P
  refine mx_objInit (pc := 1) mx_oi_X0_3 mx_oii mx_oic (by decide) (mx_dd dd_X0_init 1 (1, .invokespecial 3, 3) rfl) g1 ?_
  refine mx_aload_n (pc := 4) 0 (mx_dd dd_X0_init 2 (4, .aload_n 0, 1) rfl) rfl rfl ?_
  refine mx_sipush (pc := 5) (v := (302 : Int32)) (mx_dd dd_X0_init 3 (5, .sipush 302, 3) rfl) (by decide) ?_
  refine mx_newa (pc := 8) (N := 302) (kd := 14) (by decide) rfl mx_ac_14 (by decide) (by decide) (by decide) (mx_dd dd_X0_init 4 (8, .newarray .int, 2) rfl) ?_
  have P := P _ _ rfl rfl
  obtain ⟨g2, P⟩ := P
  refine mx_putR (pc := 10) mx_fl_X0_11 g2 rfl (.inr ⟨rfl, rfl, rfl⟩) (mx_dd dd_X0_init 5 (10, .putfield 11, 3) rfl) ?_
  have P := P _ rfl
  refine mx_aload_n (pc := 13) 0 (mx_dd dd_X0_init 6 (13, .aload_n 0, 1) rfl) rfl rfl ?_
  refine mx_sipush (pc := 14) (v := (302 : Int32)) (mx_dd dd_X0_init 7 (14, .sipush 302, 3) rfl) (by decide) ?_
  refine mx_newa (pc := 17) (N := 302) (kd := 14) (by decide) rfl mx_ac_14 (by decide) (by decide) (by decide) (mx_dd dd_X0_init 8 (17, .newarray .int, 2) rfl) ?_
  have P := P _ _ rfl rfl
  obtain ⟨g3, P⟩ := P
  refine mx_putR (pc := 19) mx_fl_X0_15 g3 rfl (.inr ⟨rfl, rfl, rfl⟩) (mx_dd dd_X0_init 9 (19, .putfield 15, 3) rfl) ?_
  have P := P _ rfl
  refine mx_aload_n (pc := 22) 0 (mx_dd dd_X0_init 10 (22, .aload_n 0, 1) rfl) rfl rfl ?_
  refine mx_sipush (pc := 23) (v := (12040 : Int32)) (mx_dd dd_X0_init 11 (23, .sipush 12040, 3) rfl) (by decide) ?_
  refine mx_newa (pc := 26) (N := 12040) (kd := 14) (by decide) rfl mx_ac_14 (by decide) (by decide) (by decide) (mx_dd dd_X0_init 12 (26, .newarray .int, 2) rfl) ?_
  have P := P _ _ rfl rfl
  obtain ⟨g4, P⟩ := P
  refine mx_putR (pc := 28) mx_fl_X0_18 g4 rfl (.inr ⟨rfl, rfl, rfl⟩) (mx_dd dd_X0_init 13 (28, .putfield 18, 3) rfl) ?_
  have P := P _ rfl
  refine mx_aload_n (pc := 31) 0 (mx_dd dd_X0_init 14 (31, .aload_n 0, 1) rfl) rfl rfl ?_
  refine mx_sipush (pc := 32) (v := (12040 : Int32)) (mx_dd dd_X0_init 15 (32, .sipush 12040, 3) rfl) (by decide) ?_
  refine mx_newa (pc := 35) (N := 12040) (kd := 14) (by decide) rfl mx_ac_14 (by decide) (by decide) (by decide) (mx_dd dd_X0_init 16 (35, .newarray .int, 2) rfl) ?_
  have P := P _ _ rfl rfl
  obtain ⟨g5, P⟩ := P
  refine mx_putR (pc := 37) mx_fl_X0_21 g5 rfl (.inr ⟨rfl, rfl, rfl⟩) (mx_dd dd_X0_init 17 (37, .putfield 21, 3) rfl) ?_
  have P := P _ rfl
  refine mx_aload_n (pc := 40) 0 (mx_dd dd_X0_init 18 (40, .aload_n 0, 1) rfl) rfl rfl ?_
  refine mx_iconst (pc := 41) (v := (-1 : Int32)) (mx_dd dd_X0_init 19 (41, .iconst (-1), 1) rfl) (by decide) ?_
  refine mx_putI (pc := 42) mx_fl_X0_24 g5 rfl (.inl rfl) rfl rfl (mx_dd dd_X0_init 20 (42, .putfield 24, 3) rfl) ?_
  have P := P _ rfl
  exact mx_return (pc := 45) (mx_dd dd_X0_init 21 (45, .return_, 1) rfl) rfl P
theorem b_X0_open {d : Nat} {h : mxH} {Q : mxRes → mxH → Prop} (x0 : Nat) (x1 : Int32) (x2 : Int32) (x3 : Int32) (x4 : Int32)
    (P : hpK h x0 = 0 ∧ ((hpR h x0 0 = none → ∀ (b2 : Nat) (h1 : mxH), b2 = hpN h → h1 = hnw h 5 0 6 → 1 ≤ d ∧ mx_SM mY_X5_init (d - 1) [.ref b2] h1 (mx_KV (fun h2 => mx_SX mY_X0_open d 32 [(1, .int x1), (2, .int x2), (3, .int x3), (4, .int x4), (5, va_rf (some b2))] [] h2 Q) fun _ _ => False)) ∧ (∀ b1 : Nat, hpR h x0 0 = some b1 → hpK h b1 = 5 ∧ ∀ h3 : mxH, h3 = hsR h x0 0 (hpR h b1 5) → mx_SX mY_X0_open d 32 [(1, .int x1), (2, .int x2), (3, .int x3), (4, .int x4), (5, va_rf (hpR h x0 0))] [] h3 Q))) : mx_SM mY_X0_open d [.ref x0, .int x1, .int x2, .int x3, .int x4] h Q := by
  refine mx_SM_of (by decide) (Nat.le_of_ble_eq_true rfl) ?_
  show mx_SX mY_X0_open d 0 [(0, .ref x0), (1, .int x1), (2, .int x2), (3, .int x3), (4, .int x4)] [] h Q
  refine mx_aload_n (pc := 0) 0 (mx_dd dd_X0_open 0 (0, .aload_n 0, 1) rfl) rfl rfl ?_
  obtain ⟨g1, P⟩ := P
  refine mx_getO (pc := 1) mx_fl_X0_28 g1 rfl (mx_dd dd_X0_open 1 (1, .getfield 28, 3) rfl) ?_
  refine mx_astoreO (pc := 4) (mx_dd dd_X0_open 2 (4, .astore 5, 2) rfl) (by decide) (lv' := [(5, _), (0, _), (1, _), (2, _), (3, _), (4, _)]) rfl ?_
  refine mx_aloadO (pc := 6) 0 (mx_dd dd_X0_open 3 (6, .aload 5, 2) rfl) rfl ?_
  refine mx_ifnonnullO (pc := 8) 23 (mx_dd dd_X0_open 4 (8, .ifnonnull 15, 3) rfl) rfl (fun b1 g2 => ?_) (fun c8 => ?_)
  · have P := P.2 b1 g2
    refine mx_aload_n (pc := 23) 1 (mx_dd dd_X0_open 10 (23, .aload_n 0, 1) rfl) rfl rfl ?_
    refine mx_aloadO (pc := 24) 0 (mx_dd dd_X0_open 11 (24, .aload 5, 2) rfl) rfl ?_
    refine mx_deref0 g2 ?_
    obtain ⟨g4, P⟩ := P
    refine mx_getO (pc := 26) mx_fl_X0_35 g4 rfl (mx_dd dd_X0_open 12 (26, .getfield 35, 3) rfl) ?_
    refine mx_putO (pc := 29) mx_fl_X0_28 g1 rfl (.inl rfl) (mx_dd dd_X0_open 13 (29, .putfield 28, 3) rfl) ?_
    have P := P _ rfl
    refine mx_sel [2, 3, 4, 5, 0] rfl ?_
    exact P
  · have P := P.1 c8
    refine mx_new (pc := 11) mx_nw_X0_32 (mx_nofd _) (mx_dd dd_X0_open 5 (11, .new 32, 3) rfl) ?_
    have P := P _ _ rfl rfl
    refine mx_dup (pc := 14) (mx_dd dd_X0_open 6 (14, .dup, 1) rfl) rfl ?_
    obtain ⟨g3, P⟩ := P
    refine mx_cIN (pc := 15) (Y := mY_X5_init) (As := []) mx_nn_X0_34 mx_y_X5_init rfl rfl (by simp [Value.category]) rfl (mx_dd dd_X0_open 7 (15, .invokespecial 34, 3) rfl) g3 (by decide) P (fun h2 P => ?_)
    refine mx_astore (pc := 18) (mx_dd dd_X0_open 8 (18, .astore 5, 2) rfl) (by decide) (lv' := [(5, _), (0, _), (1, _), (2, _), (3, _), (4, _)]) rfl ?_
    refine mx_goto (pc := 20) 32 (mx_dd dd_X0_open 9 (20, .goto 12, 3) rfl) rfl ?_
    refine mx_sel [2, 3, 4, 5, 0] rfl ?_
    exact P
theorem b_X0_open_32 {d : Nat} {h : mxH} {Q : mxRes → mxH → Prop} (x1 : Int32) (x2 : Int32) (x3 : Int32) (x4 : Int32) (x5 : Option Nat)
    (P : ∃ b1 : Nat, x5 = some b1 ∧ hpK h b1 = 5 ∧ ∀ h1 : mxH, h1 = hsR h b1 5 none → ∀ h2 : mxH, h2 = hsI h1 b1 0 x1 → ∀ h3 : mxH, h3 = hsI h2 b1 1 x2 → ∀ h4 : mxH, h4 = hsI h3 b1 2 x3 → ∀ h5 : mxH, h5 = hsI h4 b1 3 x4 → ∀ h6 : mxH, h6 = hsI h5 b1 4 (0 : Int32) → (∀ b, x5 = some b → b < hpN h6) ∧ Q (.inl (some (va_rf x5))) h6) : mx_SX mY_X0_open d 32 [(1, .int x1), (2, .int x2), (3, .int x3), (4, .int x4), (5, va_rf x5)] [] h Q := by
  refine mx_aloadO (pc := 32) 4 (mx_dd dd_X0_open 14 (32, .aload 5, 2) rfl) rfl ?_
  refine mx_null (pc := 34) (mx_dd dd_X0_open 15 (34, .aconst_null, 1) rfl) ?_
  obtain ⟨b1, g1, P⟩ := P
  refine mx_deref1 g1 ?_
  obtain ⟨g2, P⟩ := P
  refine mx_putRn (pc := 35) mx_fl_X0_35 g2 rfl (.inl rfl) (mx_dd dd_X0_open 16 (35, .putfield 35, 3) rfl) ?_
  have P := P _ rfl
  refine mx_aloadO (pc := 38) 4 (mx_dd dd_X0_open 17 (38, .aload 5, 2) rfl) rfl ?_
  refine mx_iload_n (pc := 40) 0 (mx_dd dd_X0_open 18 (40, .iload_n 1, 1) rfl) rfl rfl ?_
  refine mx_deref1 g1 ?_
  refine mx_putI (pc := 41) mx_fl_X0_38 g2 rfl (.inl rfl) rfl rfl (mx_dd dd_X0_open 19 (41, .putfield 38, 3) rfl) ?_
  have P := P _ rfl
  refine mx_aloadO (pc := 44) 4 (mx_dd dd_X0_open 20 (44, .aload 5, 2) rfl) rfl ?_
  refine mx_iload_n (pc := 46) 1 (mx_dd dd_X0_open 21 (46, .iload_n 2, 1) rfl) rfl rfl ?_
  refine mx_deref1 g1 ?_
  refine mx_putI (pc := 47) mx_fl_X0_41 g2 rfl (.inl rfl) rfl rfl (mx_dd dd_X0_open 22 (47, .putfield 41, 3) rfl) ?_
  have P := P _ rfl
  refine mx_aloadO (pc := 50) 4 (mx_dd dd_X0_open 23 (50, .aload 5, 2) rfl) rfl ?_
  refine mx_iload_n (pc := 52) 2 (mx_dd dd_X0_open 24 (52, .iload_n 3, 1) rfl) rfl rfl ?_
  refine mx_deref1 g1 ?_
  refine mx_putI (pc := 53) mx_fl_X0_44 g2 rfl (.inl rfl) rfl rfl (mx_dd dd_X0_open 25 (53, .putfield 44, 3) rfl) ?_
  have P := P _ rfl
  refine mx_aloadO (pc := 56) 4 (mx_dd dd_X0_open 26 (56, .aload 5, 2) rfl) rfl ?_
  refine mx_iload (pc := 58) 3 (mx_dd dd_X0_open 27 (58, .iload 4, 2) rfl) rfl ?_
  refine mx_deref1 g1 ?_
  refine mx_putI (pc := 60) mx_fl_X0_47 g2 rfl (.inl rfl) rfl rfl (mx_dd dd_X0_open 28 (60, .putfield 47, 3) rfl) ?_
  have P := P _ rfl
  refine mx_aloadO (pc := 63) 4 (mx_dd dd_X0_open 29 (63, .aload 5, 2) rfl) rfl ?_
  refine mx_iconst (pc := 65) (v := (0 : Int32)) (mx_dd dd_X0_open 30 (65, .iconst 0, 1) rfl) (by decide) ?_
  refine mx_deref1 g1 ?_
  refine mx_putI (pc := 66) mx_fl_X0_50 g2 rfl (.inl rfl) rfl rfl (mx_dd dd_X0_open 31 (66, .putfield 50, 3) rfl) ?_
  have P := P _ rfl
  refine mx_aloadO (pc := 69) 4 (mx_dd dd_X0_open 32 (69, .aload 5, 2) rfl) rfl ?_
  obtain ⟨g3, P⟩ := P
  exact mx_areturnO (pc := 71) (mx_dd dd_X0_open 33 (71, .areturn, 1) rfl) rfl g3 P
theorem b_X0_forgetPipes {d : Nat} {h : mxH} {Q : mxRes → mxH → Prop} (x0 : Nat)
    (P : hpK h x0 = 0 ∧ ∀ h1 : mxH, h1 = hsI h x0 3 (0 : Int32) → ∀ h2 : mxH, h2 = hsI h1 x0 6 (0 : Int32) → ∀ h3 : mxH, h3 = hsI h2 x0 7 (-1 : Int32) → Q (.inl none) h3) : mx_SM mY_X0_forgetPipes d [.ref x0] h Q := by
  refine mx_SM_of (by decide) (Nat.le_of_ble_eq_true rfl) ?_
  show mx_SX mY_X0_forgetPipes d 0 [(0, .ref x0)] [] h Q
  refine mx_aload_n (pc := 0) 0 (mx_dd dd_X0_forgetPipes 0 (0, .aload_n 0, 1) rfl) rfl rfl ?_
  refine mx_iconst (pc := 1) (v := (0 : Int32)) (mx_dd dd_X0_forgetPipes 1 (1, .iconst 0, 1) rfl) (by decide) ?_
  obtain ⟨g1, P⟩ := P
  refine mx_putI (pc := 2) mx_fl_X0_53 g1 rfl (.inl rfl) rfl rfl (mx_dd dd_X0_forgetPipes 2 (2, .putfield 53, 3) rfl) ?_
  have P := P _ rfl
  refine mx_aload_n (pc := 5) 0 (mx_dd dd_X0_forgetPipes 3 (5, .aload_n 0, 1) rfl) rfl rfl ?_
  refine mx_iconst (pc := 6) (v := (0 : Int32)) (mx_dd dd_X0_forgetPipes 4 (6, .iconst 0, 1) rfl) (by decide) ?_
  refine mx_putI (pc := 7) mx_fl_X0_56 g1 rfl (.inl rfl) rfl rfl (mx_dd dd_X0_forgetPipes 5 (7, .putfield 56, 3) rfl) ?_
  have P := P _ rfl
  refine mx_aload_n (pc := 10) 0 (mx_dd dd_X0_forgetPipes 6 (10, .aload_n 0, 1) rfl) rfl rfl ?_
  refine mx_iconst (pc := 11) (v := (-1 : Int32)) (mx_dd dd_X0_forgetPipes 7 (11, .iconst (-1), 1) rfl) (by decide) ?_
  refine mx_putI (pc := 12) mx_fl_X0_24 g1 rfl (.inl rfl) rfl rfl (mx_dd dd_X0_forgetPipes 8 (12, .putfield 24, 3) rfl) ?_
  have P := P _ rfl
  exact mx_return (pc := 15) (mx_dd dd_X0_forgetPipes 9 (15, .return_, 1) rfl) rfl P
theorem b_X0_makePipe {d : Nat} {h : mxH} {Q : mxRes → mxH → Prop} (x0 : Nat)
    (P : hpK h x0 = 0 ∧ (((hpI h x0 3) < 0 → Q (.inl (some (.int (-1 : Int32)))) h) ∧ (¬ (hpI h x0 3) < 0 → (((hpI h x0 3) < (302 : Int32) → ∃ b1 : Nat, hpR h x0 1 = some b1 ∧ hpK h b1 = 14 ∧ vp_in (hpI h x0 3) (hpZ h b1) ∧ ∀ h1 : mxH, h1 = hsI h b1 (hpI h x0 3).toNatClampNeg (-1 : Int32) → ∃ b2 : Nat, hpR h1 x0 2 = some b2 ∧ hpK h1 b2 = 14 ∧ vp_in (hpI h x0 3) (hpZ h1 b2) ∧ ∀ h2 : mxH, h2 = hsI h1 b2 (hpI h x0 3).toNatClampNeg (-1 : Int32) → ∀ h3 : mxH, h3 = hsI h2 x0 3 ((hpI h2 x0 3) + (1 : Int32)) → Q (.inl (some (.int (hpI h x0 3)))) h3) ∧ (¬ (hpI h x0 3) < (302 : Int32) → Q (.inl (some (.int (-1 : Int32)))) h))))) : mx_SM mY_X0_makePipe d [.ref x0] h Q := by
  refine mx_SM_of (by decide) (Nat.le_of_ble_eq_true rfl) ?_
  show mx_SX mY_X0_makePipe d 0 [(0, .ref x0)] [] h Q
  refine mx_aload_n (pc := 0) 0 (mx_dd dd_X0_makePipe 0 (0, .aload_n 0, 1) rfl) rfl rfl ?_
  obtain ⟨g1, P⟩ := P
  refine mx_getI (pc := 1) mx_fl_X0_53 g1 rfl (mx_dd dd_X0_makePipe 1 (1, .getfield 53, 3) rfl) ?_
  refine mx_if_lt (pc := 4) 17 (mx_dd dd_X0_makePipe 2 (4, .ifCond .lt 13, 3) rfl) rfl (fun c4 => ?_) (fun c4 => ?_)
  · have P := P.1 c4
    refine mx_iconst (pc := 17) (v := (-1 : Int32)) (mx_dd dd_X0_makePipe 7 (17, .iconst (-1), 1) rfl) (by decide) ?_
    exact mx_ireturn (pc := 18) (mx_dd dd_X0_makePipe 8 (18, .ireturn, 1) rfl) rfl rfl P
  · have P := P.2 c4
    refine mx_aload_n (pc := 7) 0 (mx_dd dd_X0_makePipe 3 (7, .aload_n 0, 1) rfl) rfl rfl ?_
    refine mx_getI (pc := 8) mx_fl_X0_53 g1 rfl (mx_dd dd_X0_makePipe 4 (8, .getfield 53, 3) rfl) ?_
    refine mx_sipush (pc := 11) (v := (302 : Int32)) (mx_dd dd_X0_makePipe 5 (11, .sipush 302, 3) rfl) (by decide) ?_
    refine mx_icmp_lt (pc := 14) 19 (mx_dd dd_X0_makePipe 6 (14, .if_icmp .lt 5, 3) rfl) rfl (fun c14 => ?_) (fun c14 => ?_)
    · have P := P.1 c14
      refine mx_aload_n (pc := 19) 0 (mx_dd dd_X0_makePipe 9 (19, .aload_n 0, 1) rfl) rfl rfl ?_
      refine mx_getI (pc := 20) mx_fl_X0_53 g1 rfl (mx_dd dd_X0_makePipe 10 (20, .getfield 53, 3) rfl) ?_
      refine mx_istore_n (pc := 23) (mx_dd dd_X0_makePipe 11 (23, .istore_n 1, 1) rfl) rfl (by decide) (lv' := [(1, _), (0, _)]) rfl ?_
      refine mx_aload_n (pc := 24) 1 (mx_dd dd_X0_makePipe 12 (24, .aload_n 0, 1) rfl) rfl rfl ?_
      obtain ⟨b1, g2, P⟩ := P
      refine mx_getR (pc := 25) mx_fl_X0_11 g1 rfl g2 (mx_dd dd_X0_makePipe 13 (25, .getfield 11, 3) rfl) ?_
      refine mx_iload_n (pc := 28) 0 (mx_dd dd_X0_makePipe 14 (28, .iload_n 1, 1) rfl) rfl rfl ?_
      refine mx_iconst (pc := 29) (v := (-1 : Int32)) (mx_dd dd_X0_makePipe 15 (29, .iconst (-1), 1) rfl) (by decide) ?_
      obtain ⟨g3, P⟩ := P
      obtain ⟨g4, P⟩ := P
      refine mx_iast (pc := 30) g3 g4 (mx_dd dd_X0_makePipe 16 (30, .iastore, 1) rfl) ?_
      have P := P _ rfl
      refine mx_aload_n (pc := 31) 1 (mx_dd dd_X0_makePipe 17 (31, .aload_n 0, 1) rfl) rfl rfl ?_
      obtain ⟨b2, g5, P⟩ := P
      refine mx_getR (pc := 32) mx_fl_X0_15 g1 rfl g5 (mx_dd dd_X0_makePipe 18 (32, .getfield 15, 3) rfl) ?_
      refine mx_iload_n (pc := 35) 0 (mx_dd dd_X0_makePipe 19 (35, .iload_n 1, 1) rfl) rfl rfl ?_
      refine mx_iconst (pc := 36) (v := (-1 : Int32)) (mx_dd dd_X0_makePipe 20 (36, .iconst (-1), 1) rfl) (by decide) ?_
      obtain ⟨g6, P⟩ := P
      obtain ⟨g7, P⟩ := P
      refine mx_iast (pc := 37) g6 g7 (mx_dd dd_X0_makePipe 21 (37, .iastore, 1) rfl) ?_
      have P := P _ rfl
      refine mx_aload_n (pc := 38) 1 (mx_dd dd_X0_makePipe 22 (38, .aload_n 0, 1) rfl) rfl rfl ?_
      refine mx_dup (pc := 39) (mx_dd dd_X0_makePipe 23 (39, .dup, 1) rfl) rfl ?_
      refine mx_getI (pc := 40) mx_fl_X0_53 g1 rfl (mx_dd dd_X0_makePipe 24 (40, .getfield 53, 3) rfl) ?_
      refine mx_iconst (pc := 43) (v := (1 : Int32)) (mx_dd dd_X0_makePipe 25 (43, .iconst 1, 1) rfl) (by decide) ?_
      refine mx_iadd (pc := 44) (mx_dd dd_X0_makePipe 26 (44, .iadd, 1) rfl) ?_
      refine mx_putI (pc := 45) mx_fl_X0_53 g1 rfl (.inl rfl) rfl rfl (mx_dd dd_X0_makePipe 27 (45, .putfield 53, 3) rfl) ?_
      have P := P _ rfl
      refine mx_iload_n (pc := 48) 0 (mx_dd dd_X0_makePipe 28 (48, .iload_n 1, 1) rfl) rfl rfl ?_
      exact mx_ireturn (pc := 49) (mx_dd dd_X0_makePipe 29 (49, .ireturn, 1) rfl) rfl rfl P
    · have P := P.2 c14
      refine mx_iconst (pc := 17) (v := (-1 : Int32)) (mx_dd dd_X0_makePipe 7 (17, .iconst (-1), 1) rfl) (by decide) ?_
      exact mx_ireturn (pc := 18) (mx_dd dd_X0_makePipe 8 (18, .ireturn, 1) rfl) rfl rfl P
theorem b_X0_putIn {d : Nat} {h : mxH} {Q : mxRes → mxH → Prop} (x0 : Nat) (x1 : Int32) (x2 : Int32)
    (P : 1 ≤ d ∧ hpK h x0 = 0 ∧ mx_SM mY_X0_takeNode (d - 1) [.ref x0] h (mx_KI (fun v1 h1 => ((x1 < 0 → Q (.inl (some (.int (0 : Int32)))) h1) ∧ (¬ x1 < 0 → (((302 : Int32) ≤ x1 → Q (.inl (some (.int (0 : Int32)))) h1) ∧ (¬ (302 : Int32) ≤ x1 → ((v1 < 0 → Q (.inl (some (.int (0 : Int32)))) h1) ∧ (¬ v1 < 0 → ((v1 < (12040 : Int32) → hpK h1 x0 = 0 ∧ ∃ b1 : Nat, hpR h1 x0 4 = some b1 ∧ hpK h1 b1 = 14 ∧ vp_in v1 (hpZ h1 b1) ∧ ∀ h2 : mxH, h2 = hsI h1 b1 v1.toNatClampNeg x2 → ∃ b2 : Nat, hpR h2 x0 5 = some b2 ∧ hpK h2 b2 = 14 ∧ vp_in v1 (hpZ h2 b2) ∧ ∀ h3 : mxH, h3 = hsI h2 b2 v1.toNatClampNeg (-1 : Int32) → ∃ b3 : Nat, hpR h3 x0 2 = some b3 ∧ hpK h3 b3 = 14 ∧ vp_in x1 (hpZ h3 b3) ∧ (((hpI h3 b3 x1.toNatClampNeg) < 0 → mx_SX mY_X0_putIn d 75 [(0, .ref x0), (1, .int x1), (3, .int v1)] [] h3 Q) ∧ (¬ (hpI h3 b3 x1.toNatClampNeg) < 0 → (((12040 : Int32) ≤ (hpI h3 b3 x1.toNatClampNeg) → mx_SX mY_X0_putIn d 75 [(0, .ref x0), (1, .int x1), (3, .int v1)] [] h3 Q) ∧ (¬ (12040 : Int32) ≤ (hpI h3 b3 x1.toNatClampNeg) → ∃ b4 : Nat, hpR h3 x0 5 = some b4 ∧ hpK h3 b4 = 14 ∧ vp_in (hpI h3 b3 x1.toNatClampNeg) (hpZ h3 b4) ∧ ∀ h4 : mxH, h4 = hsI h3 b4 (hpI h3 b3 x1.toNatClampNeg).toNatClampNeg v1 → ∃ b5 : Nat, hpR h4 x0 2 = some b5 ∧ hpK h4 b5 = 14 ∧ vp_in x1 (hpZ h4 b5) ∧ ∀ h5 : mxH, h5 = hsI h4 b5 x1.toNatClampNeg v1 → Q (.inl (some (.int (1 : Int32)))) h5))))) ∧ (¬ v1 < (12040 : Int32) → Q (.inl (some (.int (0 : Int32)))) h1))))))))) (mx_XX mY_X0_putIn Q))) : mx_SM mY_X0_putIn d [.ref x0, .int x1, .int x2] h Q := by
  refine mx_SM_of (by decide) (Nat.le_of_ble_eq_true rfl) ?_
  show mx_SX mY_X0_putIn d 0 [(0, .ref x0), (1, .int x1), (2, .int x2)] [] h Q
  refine mx_aload_n (pc := 0) 0 (mx_dd dd_X0_putIn 0 (0, .aload_n 0, 1) rfl) rfl rfl ?_
  obtain ⟨g1, P⟩ := P
  obtain ⟨g2, P⟩ := P
  refine mx_cVI (pc := 1) (Y := mY_X0_takeNode) (As := []) mx_ml_X0_59 mx_y_X0_takeNode rfl g2 (by decide) rfl (by decide) rfl (mx_dd dd_X0_putIn 1 (1, .invokevirtual 59, 3) rfl) g1 (by decide) P (fun v1 h1 P => ?_)
  refine mx_istore_n (pc := 4) (mx_dd dd_X0_putIn 2 (4, .istore_n 3, 1) rfl) rfl (by decide) (lv' := [(3, _), (0, _), (1, _), (2, _)]) rfl ?_
  refine mx_iload_n (pc := 5) 2 (mx_dd dd_X0_putIn 3 (5, .iload_n 1, 1) rfl) rfl rfl ?_
  refine mx_if_lt (pc := 6) 27 (mx_dd dd_X0_putIn 4 (6, .ifCond .lt 21, 3) rfl) rfl (fun c6 => ?_) (fun c6 => ?_)
  · have P := P.1 c6
    refine mx_iconst (pc := 27) (v := (0 : Int32)) (mx_dd dd_X0_putIn 13 (27, .iconst 0, 1) rfl) (by decide) ?_
    exact mx_ireturn (pc := 28) (mx_dd dd_X0_putIn 14 (28, .ireturn, 1) rfl) rfl rfl P
  · have P := P.2 c6
    refine mx_iload_n (pc := 9) 2 (mx_dd dd_X0_putIn 5 (9, .iload_n 1, 1) rfl) rfl rfl ?_
    refine mx_sipush (pc := 10) (v := (302 : Int32)) (mx_dd dd_X0_putIn 6 (10, .sipush 302, 3) rfl) (by decide) ?_
    refine mx_icmp_ge (pc := 13) 27 (mx_dd dd_X0_putIn 7 (13, .if_icmp .ge 14, 3) rfl) rfl (fun c13 => ?_) (fun c13 => ?_)
    · have P := P.1 c13
      refine mx_iconst (pc := 27) (v := (0 : Int32)) (mx_dd dd_X0_putIn 13 (27, .iconst 0, 1) rfl) (by decide) ?_
      exact mx_ireturn (pc := 28) (mx_dd dd_X0_putIn 14 (28, .ireturn, 1) rfl) rfl rfl P
    · have P := P.2 c13
      refine mx_iload_n (pc := 16) 0 (mx_dd dd_X0_putIn 8 (16, .iload_n 3, 1) rfl) rfl rfl ?_
      refine mx_if_lt (pc := 17) 27 (mx_dd dd_X0_putIn 9 (17, .ifCond .lt 10, 3) rfl) rfl (fun c17 => ?_) (fun c17 => ?_)
      · have P := P.1 c17
        refine mx_iconst (pc := 27) (v := (0 : Int32)) (mx_dd dd_X0_putIn 13 (27, .iconst 0, 1) rfl) (by decide) ?_
        exact mx_ireturn (pc := 28) (mx_dd dd_X0_putIn 14 (28, .ireturn, 1) rfl) rfl rfl P
      · have P := P.2 c17
        refine mx_iload_n (pc := 20) 0 (mx_dd dd_X0_putIn 10 (20, .iload_n 3, 1) rfl) rfl rfl ?_
        refine mx_sipush (pc := 21) (v := (12040 : Int32)) (mx_dd dd_X0_putIn 11 (21, .sipush 12040, 3) rfl) (by decide) ?_
        refine mx_icmp_lt (pc := 24) 29 (mx_dd dd_X0_putIn 12 (24, .if_icmp .lt 5, 3) rfl) rfl (fun c24 => ?_) (fun c24 => ?_)
        · have P := P.1 c24
          refine mx_aload_n (pc := 29) 1 (mx_dd dd_X0_putIn 15 (29, .aload_n 0, 1) rfl) rfl rfl ?_
          obtain ⟨g3, P⟩ := P
          obtain ⟨b1, g4, P⟩ := P
          refine mx_getR (pc := 30) mx_fl_X0_18 g3 rfl g4 (mx_dd dd_X0_putIn 16 (30, .getfield 18, 3) rfl) ?_
          refine mx_iload_n (pc := 33) 0 (mx_dd dd_X0_putIn 17 (33, .iload_n 3, 1) rfl) rfl rfl ?_
          refine mx_iload_n (pc := 34) 3 (mx_dd dd_X0_putIn 18 (34, .iload_n 2, 1) rfl) rfl rfl ?_
          obtain ⟨g5, P⟩ := P
          obtain ⟨g6, P⟩ := P
          refine mx_iast (pc := 35) g5 g6 (mx_dd dd_X0_putIn 19 (35, .iastore, 1) rfl) ?_
          have P := P _ rfl
          refine mx_aload_n (pc := 36) 1 (mx_dd dd_X0_putIn 20 (36, .aload_n 0, 1) rfl) rfl rfl ?_
          obtain ⟨b2, g7, P⟩ := P
          refine mx_getR (pc := 37) mx_fl_X0_21 g3 rfl g7 (mx_dd dd_X0_putIn 21 (37, .getfield 21, 3) rfl) ?_
          refine mx_iload_n (pc := 40) 0 (mx_dd dd_X0_putIn 22 (40, .iload_n 3, 1) rfl) rfl rfl ?_
          refine mx_iconst (pc := 41) (v := (-1 : Int32)) (mx_dd dd_X0_putIn 23 (41, .iconst (-1), 1) rfl) (by decide) ?_
          obtain ⟨g8, P⟩ := P
          obtain ⟨g9, P⟩ := P
          refine mx_iast (pc := 42) g8 g9 (mx_dd dd_X0_putIn 24 (42, .iastore, 1) rfl) ?_
          have P := P _ rfl
          refine mx_aload_n (pc := 43) 1 (mx_dd dd_X0_putIn 25 (43, .aload_n 0, 1) rfl) rfl rfl ?_
          obtain ⟨b3, g10, P⟩ := P
          refine mx_getR (pc := 44) mx_fl_X0_15 g3 rfl g10 (mx_dd dd_X0_putIn 26 (44, .getfield 15, 3) rfl) ?_
          refine mx_iload_n (pc := 47) 2 (mx_dd dd_X0_putIn 27 (47, .iload_n 1, 1) rfl) rfl rfl ?_
          obtain ⟨g11, P⟩ := P
          obtain ⟨g12, P⟩ := P
          refine mx_iald (pc := 48) g11 g12 (mx_dd dd_X0_putIn 28 (48, .iaload, 1) rfl) ?_
          refine mx_istore (pc := 49) (mx_dd dd_X0_putIn 29 (49, .istore 4, 2) rfl) (by decide) (lv' := [(4, _), (3, _), (0, _), (1, _), (2, _)]) rfl ?_
          refine mx_iload (pc := 51) 0 (mx_dd dd_X0_putIn 30 (51, .iload 4, 2) rfl) rfl ?_
          refine mx_if_lt (pc := 53) 75 (mx_dd dd_X0_putIn 31 (53, .ifCond .lt 22, 3) rfl) rfl (fun c53 => ?_) (fun c53 => ?_)
          · have P := P.1 c53
            refine mx_sel [2, 3, 1] rfl ?_
            exact P
          · have P := P.2 c53
            refine mx_iload (pc := 56) 0 (mx_dd dd_X0_putIn 32 (56, .iload 4, 2) rfl) rfl ?_
            refine mx_sipush (pc := 58) (v := (12040 : Int32)) (mx_dd dd_X0_putIn 33 (58, .sipush 12040, 3) rfl) (by decide) ?_
            refine mx_icmp_ge (pc := 61) 75 (mx_dd dd_X0_putIn 34 (61, .if_icmp .ge 14, 3) rfl) rfl (fun c61 => ?_) (fun c61 => ?_)
            · have P := P.1 c61
              refine mx_sel [2, 3, 1] rfl ?_
              exact P
            · have P := P.2 c61
              refine mx_aload_n (pc := 64) 2 (mx_dd dd_X0_putIn 35 (64, .aload_n 0, 1) rfl) rfl rfl ?_
              obtain ⟨b4, g13, P⟩ := P
              refine mx_getR (pc := 65) mx_fl_X0_21 g3 rfl g13 (mx_dd dd_X0_putIn 36 (65, .getfield 21, 3) rfl) ?_
              refine mx_iload (pc := 68) 0 (mx_dd dd_X0_putIn 37 (68, .iload 4, 2) rfl) rfl ?_
              refine mx_iload_n (pc := 70) 1 (mx_dd dd_X0_putIn 38 (70, .iload_n 3, 1) rfl) rfl rfl ?_
              obtain ⟨g14, P⟩ := P
              obtain ⟨g15, P⟩ := P
              refine mx_iast (pc := 71) g14 g15 (mx_dd dd_X0_putIn 39 (71, .iastore, 1) rfl) ?_
              have P := P _ rfl
              refine mx_goto (pc := 72) 82 (mx_dd dd_X0_putIn 40 (72, .goto 10, 3) rfl) rfl ?_
              refine mx_aload_n (pc := 82) 2 (mx_dd dd_X0_putIn 46 (82, .aload_n 0, 1) rfl) rfl rfl ?_
              obtain ⟨b5, g16, P⟩ := P
              refine mx_getR (pc := 83) mx_fl_X0_15 g3 rfl g16 (mx_dd dd_X0_putIn 47 (83, .getfield 15, 3) rfl) ?_
              refine mx_iload_n (pc := 86) 3 (mx_dd dd_X0_putIn 48 (86, .iload_n 1, 1) rfl) rfl rfl ?_
              refine mx_iload_n (pc := 87) 1 (mx_dd dd_X0_putIn 49 (87, .iload_n 3, 1) rfl) rfl rfl ?_
              obtain ⟨g17, P⟩ := P
              obtain ⟨g18, P⟩ := P
              refine mx_iast (pc := 88) g17 g18 (mx_dd dd_X0_putIn 50 (88, .iastore, 1) rfl) ?_
              have P := P _ rfl
              refine mx_iconst (pc := 89) (v := (1 : Int32)) (mx_dd dd_X0_putIn 51 (89, .iconst 1, 1) rfl) (by decide) ?_
              exact mx_ireturn (pc := 90) (mx_dd dd_X0_putIn 52 (90, .ireturn, 1) rfl) rfl rfl P
        · have P := P.2 c24
          refine mx_iconst (pc := 27) (v := (0 : Int32)) (mx_dd dd_X0_putIn 13 (27, .iconst 0, 1) rfl) (by decide) ?_
          exact mx_ireturn (pc := 28) (mx_dd dd_X0_putIn 14 (28, .ireturn, 1) rfl) rfl rfl P
theorem b_X0_putIn_75 {d : Nat} {h : mxH} {Q : mxRes → mxH → Prop} (x0 : Nat) (x1 : Int32) (x3 : Int32)
    (P : hpK h x0 = 0 ∧ ∃ b1 : Nat, hpR h x0 1 = some b1 ∧ hpK h b1 = 14 ∧ vp_in x1 (hpZ h b1) ∧ ∀ h1 : mxH, h1 = hsI h b1 x1.toNatClampNeg x3 → ∃ b2 : Nat, hpR h1 x0 2 = some b2 ∧ hpK h1 b2 = 14 ∧ vp_in x1 (hpZ h1 b2) ∧ ∀ h2 : mxH, h2 = hsI h1 b2 x1.toNatClampNeg x3 → Q (.inl (some (.int (1 : Int32)))) h2) : mx_SX mY_X0_putIn d 75 [(0, .ref x0), (1, .int x1), (3, .int x3)] [] h Q := by
  refine mx_aload_n (pc := 75) 0 (mx_dd dd_X0_putIn 41 (75, .aload_n 0, 1) rfl) rfl rfl ?_
  obtain ⟨g1, P⟩ := P
  obtain ⟨b1, g2, P⟩ := P
  refine mx_getR (pc := 76) mx_fl_X0_11 g1 rfl g2 (mx_dd dd_X0_putIn 42 (76, .getfield 11, 3) rfl) ?_
  refine mx_iload_n (pc := 79) 1 (mx_dd dd_X0_putIn 43 (79, .iload_n 1, 1) rfl) rfl rfl ?_
  refine mx_iload_n (pc := 80) 2 (mx_dd dd_X0_putIn 44 (80, .iload_n 3, 1) rfl) rfl rfl ?_
  obtain ⟨g3, P⟩ := P
  obtain ⟨g4, P⟩ := P
  refine mx_iast (pc := 81) g3 g4 (mx_dd dd_X0_putIn 45 (81, .iastore, 1) rfl) ?_
  have P := P _ rfl
  refine mx_aload_n (pc := 82) 0 (mx_dd dd_X0_putIn 46 (82, .aload_n 0, 1) rfl) rfl rfl ?_
  obtain ⟨b2, g5, P⟩ := P
  refine mx_getR (pc := 83) mx_fl_X0_15 g1 rfl g5 (mx_dd dd_X0_putIn 47 (83, .getfield 15, 3) rfl) ?_
  refine mx_iload_n (pc := 86) 1 (mx_dd dd_X0_putIn 48 (86, .iload_n 1, 1) rfl) rfl rfl ?_
  refine mx_iload_n (pc := 87) 2 (mx_dd dd_X0_putIn 49 (87, .iload_n 3, 1) rfl) rfl rfl ?_
  obtain ⟨g6, P⟩ := P
  obtain ⟨g7, P⟩ := P
  refine mx_iast (pc := 88) g6 g7 (mx_dd dd_X0_putIn 50 (88, .iastore, 1) rfl) ?_
  have P := P _ rfl
  refine mx_iconst (pc := 89) (v := (1 : Int32)) (mx_dd dd_X0_putIn 51 (89, .iconst 1, 1) rfl) (by decide) ?_
  exact mx_ireturn (pc := 90) (mx_dd dd_X0_putIn 52 (90, .ireturn, 1) rfl) rfl rfl P
theorem b_X0_takeNode {d : Nat} {h : mxH} {Q : mxRes → mxH → Prop} (x0 : Nat)
    (P : hpK h x0 = 0 ∧ (((hpI h x0 7) < 0 → mx_SX mY_X0_takeNode d 28 [(0, .ref x0)] [] h Q) ∧ (¬ (hpI h x0 7) < 0 → (((12040 : Int32) ≤ (hpI h x0 7) → mx_SX mY_X0_takeNode d 28 [(0, .ref x0)] [] h Q) ∧ (¬ (12040 : Int32) ≤ (hpI h x0 7) → ∃ b1 : Nat, hpR h x0 5 = some b1 ∧ hpK h b1 = 14 ∧ vp_in (hpI h x0 7) (hpZ h b1) ∧ ∀ h1 : mxH, h1 = hsI h x0 7 (hpI h b1 (hpI h x0 7).toNatClampNeg) → Q (.inl (some (.int (hpI h x0 7)))) h1))))) : mx_SM mY_X0_takeNode d [.ref x0] h Q := by
  refine mx_SM_of (by decide) (Nat.le_of_ble_eq_true rfl) ?_
  show mx_SX mY_X0_takeNode d 0 [(0, .ref x0)] [] h Q
  refine mx_aload_n (pc := 0) 0 (mx_dd dd_X0_takeNode 0 (0, .aload_n 0, 1) rfl) rfl rfl ?_
  obtain ⟨g1, P⟩ := P
  refine mx_getI (pc := 1) mx_fl_X0_24 g1 rfl (mx_dd dd_X0_takeNode 1 (1, .getfield 24, 3) rfl) ?_
  refine mx_istore_n (pc := 4) (mx_dd dd_X0_takeNode 2 (4, .istore_n 1, 1) rfl) rfl (by decide) (lv' := [(1, _), (0, _)]) rfl ?_
  refine mx_iload_n (pc := 5) 0 (mx_dd dd_X0_takeNode 3 (5, .iload_n 1, 1) rfl) rfl rfl ?_
  refine mx_if_lt (pc := 6) 28 (mx_dd dd_X0_takeNode 4 (6, .ifCond .lt 22, 3) rfl) rfl (fun c6 => ?_) (fun c6 => ?_)
  · have P := P.1 c6
    refine mx_sel [1] rfl ?_
    exact P
  · have P := P.2 c6
    refine mx_iload_n (pc := 9) 0 (mx_dd dd_X0_takeNode 5 (9, .iload_n 1, 1) rfl) rfl rfl ?_
    refine mx_sipush (pc := 10) (v := (12040 : Int32)) (mx_dd dd_X0_takeNode 6 (10, .sipush 12040, 3) rfl) (by decide) ?_
    refine mx_icmp_ge (pc := 13) 28 (mx_dd dd_X0_takeNode 7 (13, .if_icmp .ge 15, 3) rfl) rfl (fun c13 => ?_) (fun c13 => ?_)
    · have P := P.1 c13
      refine mx_sel [1] rfl ?_
      exact P
    · have P := P.2 c13
      refine mx_aload_n (pc := 16) 1 (mx_dd dd_X0_takeNode 8 (16, .aload_n 0, 1) rfl) rfl rfl ?_
      refine mx_aload_n (pc := 17) 1 (mx_dd dd_X0_takeNode 9 (17, .aload_n 0, 1) rfl) rfl rfl ?_
      obtain ⟨b1, g2, P⟩ := P
      refine mx_getR (pc := 18) mx_fl_X0_21 g1 rfl g2 (mx_dd dd_X0_takeNode 10 (18, .getfield 21, 3) rfl) ?_
      refine mx_iload_n (pc := 21) 0 (mx_dd dd_X0_takeNode 11 (21, .iload_n 1, 1) rfl) rfl rfl ?_
      obtain ⟨g3, P⟩ := P
      obtain ⟨g4, P⟩ := P
      refine mx_iald (pc := 22) g3 g4 (mx_dd dd_X0_takeNode 12 (22, .iaload, 1) rfl) ?_
      refine mx_putI (pc := 23) mx_fl_X0_24 g1 rfl (.inl rfl) rfl rfl (mx_dd dd_X0_takeNode 13 (23, .putfield 24, 3) rfl) ?_
      have P := P _ rfl
      refine mx_iload_n (pc := 26) 0 (mx_dd dd_X0_takeNode 14 (26, .iload_n 1, 1) rfl) rfl rfl ?_
      exact mx_ireturn (pc := 27) (mx_dd dd_X0_takeNode 15 (27, .ireturn, 1) rfl) rfl rfl P
theorem b_X0_takeNode_28 {d : Nat} {h : mxH} {Q : mxRes → mxH → Prop} (x0 : Nat)
    (P : hpK h x0 = 0 ∧ (((12040 : Int32) ≤ (hpI h x0 6) → Q (.inl (some (.int (-1 : Int32)))) h) ∧ (¬ (12040 : Int32) ≤ (hpI h x0 6) → ∀ h1 : mxH, h1 = hsI h x0 6 ((hpI h x0 6) + (1 : Int32)) → Q (.inl (some (.int ((hpI h1 x0 6) - (1 : Int32))))) h1))) : mx_SX mY_X0_takeNode d 28 [(0, .ref x0)] [] h Q := by
  refine mx_aload_n (pc := 28) 0 (mx_dd dd_X0_takeNode 16 (28, .aload_n 0, 1) rfl) rfl rfl ?_
  obtain ⟨g1, P⟩ := P
  refine mx_getI (pc := 29) mx_fl_X0_56 g1 rfl (mx_dd dd_X0_takeNode 17 (29, .getfield 56, 3) rfl) ?_
  refine mx_sipush (pc := 32) (v := (12040 : Int32)) (mx_dd dd_X0_takeNode 18 (32, .sipush 12040, 3) rfl) (by decide) ?_
  refine mx_icmp_ge (pc := 35) 55 (mx_dd dd_X0_takeNode 19 (35, .if_icmp .ge 20, 3) rfl) rfl (fun c35 => ?_) (fun c35 => ?_)
  · have P := P.1 c35
    refine mx_iconst (pc := 55) (v := (-1 : Int32)) (mx_dd dd_X0_takeNode 31 (55, .iconst (-1), 1) rfl) (by decide) ?_
    exact mx_ireturn (pc := 56) (mx_dd dd_X0_takeNode 32 (56, .ireturn, 1) rfl) rfl rfl P
  · have P := P.2 c35
    refine mx_aload_n (pc := 38) 0 (mx_dd dd_X0_takeNode 20 (38, .aload_n 0, 1) rfl) rfl rfl ?_
    refine mx_dup (pc := 39) (mx_dd dd_X0_takeNode 21 (39, .dup, 1) rfl) rfl ?_
    refine mx_getI (pc := 40) mx_fl_X0_56 g1 rfl (mx_dd dd_X0_takeNode 22 (40, .getfield 56, 3) rfl) ?_
    refine mx_iconst (pc := 43) (v := (1 : Int32)) (mx_dd dd_X0_takeNode 23 (43, .iconst 1, 1) rfl) (by decide) ?_
    refine mx_iadd (pc := 44) (mx_dd dd_X0_takeNode 24 (44, .iadd, 1) rfl) ?_
    refine mx_putI (pc := 45) mx_fl_X0_56 g1 rfl (.inl rfl) rfl rfl (mx_dd dd_X0_takeNode 25 (45, .putfield 56, 3) rfl) ?_
    have P := P _ rfl
    refine mx_aload_n (pc := 48) 0 (mx_dd dd_X0_takeNode 26 (48, .aload_n 0, 1) rfl) rfl rfl ?_
    refine mx_getI (pc := 49) mx_fl_X0_56 g1 rfl (mx_dd dd_X0_takeNode 27 (49, .getfield 56, 3) rfl) ?_
    refine mx_iconst (pc := 52) (v := (1 : Int32)) (mx_dd dd_X0_takeNode 28 (52, .iconst 1, 1) rfl) (by decide) ?_
    refine mx_isub (pc := 53) (mx_dd dd_X0_takeNode 29 (53, .isub, 1) rfl) ?_
    exact mx_ireturn (pc := 54) (mx_dd dd_X0_takeNode 30 (54, .ireturn, 1) rfl) rfl rfl P
theorem b_X0_takeFrom {d : Nat} {h : mxH} {Q : mxRes → mxH → Prop} (x0 : Nat) (x1 : Int32)
    (P : ((x1 < 0 → Q (.inl (some (.int (-1 : Int32)))) h) ∧ (¬ x1 < 0 → ((x1 < (302 : Int32) → hpK h x0 = 0 ∧ ∃ b1 : Nat, hpR h x0 1 = some b1 ∧ hpK h b1 = 14 ∧ vp_in x1 (hpZ h b1) ∧ (((hpI h b1 x1.toNatClampNeg) < 0 → Q (.inl (some (.int (-1 : Int32)))) h) ∧ (¬ (hpI h b1 x1.toNatClampNeg) < 0 → (((hpI h b1 x1.toNatClampNeg) < (12040 : Int32) → ∃ b2 : Nat, hpR h x0 5 = some b2 ∧ hpK h b2 = 14 ∧ vp_in (hpI h b1 x1.toNatClampNeg) (hpZ h b2) ∧ ∀ h1 : mxH, h1 = hsI h b1 x1.toNatClampNeg (hpI h b2 (hpI h b1 x1.toNatClampNeg).toNatClampNeg) → ∃ b3 : Nat, hpR h1 x0 1 = some b3 ∧ hpK h1 b3 = 14 ∧ vp_in x1 (hpZ h1 b3) ∧ ((0 ≤ (hpI h1 b3 x1.toNatClampNeg) → mx_SX mY_X0_takeFrom d 61 [(0, .ref x0), (2, .int (hpI h b1 x1.toNatClampNeg))] [] h1 Q) ∧ (¬ 0 ≤ (hpI h1 b3 x1.toNatClampNeg) → ∃ b4 : Nat, hpR h1 x0 2 = some b4 ∧ hpK h1 b4 = 14 ∧ vp_in x1 (hpZ h1 b4) ∧ ∀ h2 : mxH, h2 = hsI h1 b4 x1.toNatClampNeg (-1 : Int32) → mx_SX mY_X0_takeFrom d 61 [(0, .ref x0), (2, .int (hpI h b1 x1.toNatClampNeg))] [] h2 Q))) ∧ (¬ (hpI h b1 x1.toNatClampNeg) < (12040 : Int32) → Q (.inl (some (.int (-1 : Int32)))) h))))) ∧ (¬ x1 < (302 : Int32) → Q (.inl (some (.int (-1 : Int32)))) h))))) : mx_SM mY_X0_takeFrom d [.ref x0, .int x1] h Q := by
  refine mx_SM_of (by decide) (Nat.le_of_ble_eq_true rfl) ?_
  show mx_SX mY_X0_takeFrom d 0 [(0, .ref x0), (1, .int x1)] [] h Q
  refine mx_iload_n (pc := 0) 1 (mx_dd dd_X0_takeFrom 0 (0, .iload_n 1, 1) rfl) rfl rfl ?_
  refine mx_if_lt (pc := 1) 11 (mx_dd dd_X0_takeFrom 1 (1, .ifCond .lt 10, 3) rfl) rfl (fun c1 => ?_) (fun c1 => ?_)
  · have P := P.1 c1
    refine mx_iconst (pc := 11) (v := (-1 : Int32)) (mx_dd dd_X0_takeFrom 5 (11, .iconst (-1), 1) rfl) (by decide) ?_
    exact mx_ireturn (pc := 12) (mx_dd dd_X0_takeFrom 6 (12, .ireturn, 1) rfl) rfl rfl P
  · have P := P.2 c1
    refine mx_iload_n (pc := 4) 1 (mx_dd dd_X0_takeFrom 2 (4, .iload_n 1, 1) rfl) rfl rfl ?_
    refine mx_sipush (pc := 5) (v := (302 : Int32)) (mx_dd dd_X0_takeFrom 3 (5, .sipush 302, 3) rfl) (by decide) ?_
    refine mx_icmp_lt (pc := 8) 13 (mx_dd dd_X0_takeFrom 4 (8, .if_icmp .lt 5, 3) rfl) rfl (fun c8 => ?_) (fun c8 => ?_)
    · have P := P.1 c8
      refine mx_aload_n (pc := 13) 0 (mx_dd dd_X0_takeFrom 7 (13, .aload_n 0, 1) rfl) rfl rfl ?_
      obtain ⟨g1, P⟩ := P
      obtain ⟨b1, g2, P⟩ := P
      refine mx_getR (pc := 14) mx_fl_X0_11 g1 rfl g2 (mx_dd dd_X0_takeFrom 8 (14, .getfield 11, 3) rfl) ?_
      refine mx_iload_n (pc := 17) 1 (mx_dd dd_X0_takeFrom 9 (17, .iload_n 1, 1) rfl) rfl rfl ?_
      obtain ⟨g3, P⟩ := P
      obtain ⟨g4, P⟩ := P
      refine mx_iald (pc := 18) g3 g4 (mx_dd dd_X0_takeFrom 10 (18, .iaload, 1) rfl) ?_
      refine mx_istore_n (pc := 19) (mx_dd dd_X0_takeFrom 11 (19, .istore_n 2, 1) rfl) rfl (by decide) (lv' := [(2, _), (0, _), (1, _)]) rfl ?_
      refine mx_iload_n (pc := 20) 0 (mx_dd dd_X0_takeFrom 12 (20, .iload_n 2, 1) rfl) rfl rfl ?_
      refine mx_if_lt (pc := 21) 31 (mx_dd dd_X0_takeFrom 13 (21, .ifCond .lt 10, 3) rfl) rfl (fun c21 => ?_) (fun c21 => ?_)
      · have P := P.1 c21
        refine mx_iconst (pc := 31) (v := (-1 : Int32)) (mx_dd dd_X0_takeFrom 17 (31, .iconst (-1), 1) rfl) (by decide) ?_
        exact mx_ireturn (pc := 32) (mx_dd dd_X0_takeFrom 18 (32, .ireturn, 1) rfl) rfl rfl P
      · have P := P.2 c21
        refine mx_iload_n (pc := 24) 0 (mx_dd dd_X0_takeFrom 14 (24, .iload_n 2, 1) rfl) rfl rfl ?_
        refine mx_sipush (pc := 25) (v := (12040 : Int32)) (mx_dd dd_X0_takeFrom 15 (25, .sipush 12040, 3) rfl) (by decide) ?_
        refine mx_icmp_lt (pc := 28) 33 (mx_dd dd_X0_takeFrom 16 (28, .if_icmp .lt 5, 3) rfl) rfl (fun c28 => ?_) (fun c28 => ?_)
        · have P := P.1 c28
          refine mx_aload_n (pc := 33) 1 (mx_dd dd_X0_takeFrom 19 (33, .aload_n 0, 1) rfl) rfl rfl ?_
          refine mx_getR (pc := 34) mx_fl_X0_11 g1 rfl g2 (mx_dd dd_X0_takeFrom 20 (34, .getfield 11, 3) rfl) ?_
          refine mx_iload_n (pc := 37) 2 (mx_dd dd_X0_takeFrom 21 (37, .iload_n 1, 1) rfl) rfl rfl ?_
          refine mx_aload_n (pc := 38) 1 (mx_dd dd_X0_takeFrom 22 (38, .aload_n 0, 1) rfl) rfl rfl ?_
          obtain ⟨b2, g5, P⟩ := P
          refine mx_getR (pc := 39) mx_fl_X0_21 g1 rfl g5 (mx_dd dd_X0_takeFrom 23 (39, .getfield 21, 3) rfl) ?_
          refine mx_iload_n (pc := 42) 0 (mx_dd dd_X0_takeFrom 24 (42, .iload_n 2, 1) rfl) rfl rfl ?_
          obtain ⟨g6, P⟩ := P
          obtain ⟨g7, P⟩ := P
          refine mx_iald (pc := 43) g6 g7 (mx_dd dd_X0_takeFrom 25 (43, .iaload, 1) rfl) ?_
          refine mx_iast (pc := 44) g3 g4 (mx_dd dd_X0_takeFrom 26 (44, .iastore, 1) rfl) ?_
          have P := P _ rfl
          refine mx_aload_n (pc := 45) 1 (mx_dd dd_X0_takeFrom 27 (45, .aload_n 0, 1) rfl) rfl rfl ?_
          obtain ⟨b3, g8, P⟩ := P
          refine mx_getR (pc := 46) mx_fl_X0_11 g1 rfl g8 (mx_dd dd_X0_takeFrom 28 (46, .getfield 11, 3) rfl) ?_
          refine mx_iload_n (pc := 49) 2 (mx_dd dd_X0_takeFrom 29 (49, .iload_n 1, 1) rfl) rfl rfl ?_
          obtain ⟨g9, P⟩ := P
          obtain ⟨g10, P⟩ := P
          refine mx_iald (pc := 50) g9 g10 (mx_dd dd_X0_takeFrom 30 (50, .iaload, 1) rfl) ?_
          refine mx_if_ge (pc := 51) 61 (mx_dd dd_X0_takeFrom 31 (51, .ifCond .ge 10, 3) rfl) rfl (fun c51 => ?_) (fun c51 => ?_)
          · have P := P.1 c51
            refine mx_sel [1, 0] rfl ?_
            exact P
          · have P := P.2 c51
            refine mx_aload_n (pc := 54) 1 (mx_dd dd_X0_takeFrom 32 (54, .aload_n 0, 1) rfl) rfl rfl ?_
            obtain ⟨b4, g11, P⟩ := P
            refine mx_getR (pc := 55) mx_fl_X0_15 g1 rfl g11 (mx_dd dd_X0_takeFrom 33 (55, .getfield 15, 3) rfl) ?_
            refine mx_iload_n (pc := 58) 2 (mx_dd dd_X0_takeFrom 34 (58, .iload_n 1, 1) rfl) rfl rfl ?_
            refine mx_iconst (pc := 59) (v := (-1 : Int32)) (mx_dd dd_X0_takeFrom 35 (59, .iconst (-1), 1) rfl) (by decide) ?_
            obtain ⟨g12, P⟩ := P
            obtain ⟨g13, P⟩ := P
            refine mx_iast (pc := 60) g12 g13 (mx_dd dd_X0_takeFrom 36 (60, .iastore, 1) rfl) ?_
            have P := P _ rfl
            refine mx_sel [1, 0] rfl ?_
            exact P
        · have P := P.2 c28
          refine mx_iconst (pc := 31) (v := (-1 : Int32)) (mx_dd dd_X0_takeFrom 17 (31, .iconst (-1), 1) rfl) (by decide) ?_
          exact mx_ireturn (pc := 32) (mx_dd dd_X0_takeFrom 18 (32, .ireturn, 1) rfl) rfl rfl P
    · have P := P.2 c8
      refine mx_iconst (pc := 11) (v := (-1 : Int32)) (mx_dd dd_X0_takeFrom 5 (11, .iconst (-1), 1) rfl) (by decide) ?_
      exact mx_ireturn (pc := 12) (mx_dd dd_X0_takeFrom 6 (12, .ireturn, 1) rfl) rfl rfl P
theorem b_X0_takeFrom_61 {d : Nat} {h : mxH} {Q : mxRes → mxH → Prop} (x0 : Nat) (x2 : Int32)
    (P : hpK h x0 = 0 ∧ ∃ b1 : Nat, hpR h x0 5 = some b1 ∧ hpK h b1 = 14 ∧ vp_in x2 (hpZ h b1) ∧ ∀ h1 : mxH, h1 = hsI h b1 x2.toNatClampNeg (hpI h x0 7) → ∀ h2 : mxH, h2 = hsI h1 x0 7 x2 → ∃ b2 : Nat, hpR h2 x0 4 = some b2 ∧ hpK h2 b2 = 14 ∧ vp_in x2 (hpZ h2 b2) ∧ Q (.inl (some (.int (hpI h2 b2 x2.toNatClampNeg)))) h2) : mx_SX mY_X0_takeFrom d 61 [(0, .ref x0), (2, .int x2)] [] h Q := by
  refine mx_aload_n (pc := 61) 0 (mx_dd dd_X0_takeFrom 37 (61, .aload_n 0, 1) rfl) rfl rfl ?_
  obtain ⟨g1, P⟩ := P
  obtain ⟨b1, g2, P⟩ := P
  refine mx_getR (pc := 62) mx_fl_X0_21 g1 rfl g2 (mx_dd dd_X0_takeFrom 38 (62, .getfield 21, 3) rfl) ?_
  refine mx_iload_n (pc := 65) 1 (mx_dd dd_X0_takeFrom 39 (65, .iload_n 2, 1) rfl) rfl rfl ?_
  refine mx_aload_n (pc := 66) 0 (mx_dd dd_X0_takeFrom 40 (66, .aload_n 0, 1) rfl) rfl rfl ?_
  refine mx_getI (pc := 67) mx_fl_X0_24 g1 rfl (mx_dd dd_X0_takeFrom 41 (67, .getfield 24, 3) rfl) ?_
  obtain ⟨g3, P⟩ := P
  obtain ⟨g4, P⟩ := P
  refine mx_iast (pc := 70) g3 g4 (mx_dd dd_X0_takeFrom 42 (70, .iastore, 1) rfl) ?_
  have P := P _ rfl
  refine mx_aload_n (pc := 71) 0 (mx_dd dd_X0_takeFrom 43 (71, .aload_n 0, 1) rfl) rfl rfl ?_
  refine mx_iload_n (pc := 72) 1 (mx_dd dd_X0_takeFrom 44 (72, .iload_n 2, 1) rfl) rfl rfl ?_
  refine mx_putI (pc := 73) mx_fl_X0_24 g1 rfl (.inl rfl) rfl rfl (mx_dd dd_X0_takeFrom 45 (73, .putfield 24, 3) rfl) ?_
  have P := P _ rfl
  refine mx_aload_n (pc := 76) 0 (mx_dd dd_X0_takeFrom 46 (76, .aload_n 0, 1) rfl) rfl rfl ?_
  obtain ⟨b2, g5, P⟩ := P
  refine mx_getR (pc := 77) mx_fl_X0_18 g1 rfl g5 (mx_dd dd_X0_takeFrom 47 (77, .getfield 18, 3) rfl) ?_
  refine mx_iload_n (pc := 80) 1 (mx_dd dd_X0_takeFrom 48 (80, .iload_n 2, 1) rfl) rfl rfl ?_
  obtain ⟨g6, P⟩ := P
  obtain ⟨g7, P⟩ := P
  refine mx_iald (pc := 81) g6 g7 (mx_dd dd_X0_takeFrom 49 (81, .iaload, 1) rfl) ?_
  exact mx_ireturn (pc := 82) (mx_dd dd_X0_takeFrom 50 (82, .ireturn, 1) rfl) rfl rfl P
theorem b_X2_init {d : Nat} {h : mxH} {Q : mxRes → mxH → Prop} (x0 : Nat) (x1 : Nat)
    (P : 1 ≤ d ∧ hpK h x0 = 2 ∧ ∀ h1 : mxH, h1 = hsR h x0 0 (some x1) → ∀ (b1 : Nat) (h2 : mxH), b1 = hpN h1 → h2 = hnw h1 18 10 10 → hpK h2 x0 = 2 ∧ ∀ h3 : mxH, h3 = hsR h2 x0 1 (some b1) → Q (.inl none) h3) : mx_SM mY_X2_init d [.ref x0, .ref x1] h Q := by
  refine mx_SM_of (by decide) (Nat.le_of_ble_eq_true rfl) ?_
  show mx_SX mY_X2_init d 0 [(0, .ref x0), (1, .ref x1)] [] h Q
  refine mx_aload_n (pc := 0) 0 (mx_dd dd_X2_init 0 (0, .aload_n 0, 1) rfl) rfl rfl ?_
  obtain ⟨g1, P⟩ := P
  refine mx_objInit (pc := 1) mx_oi_X2_3 mx_oii mx_oic (by decide) (mx_dd dd_X2_init 1 (1, .invokespecial 3, 3) rfl) g1 ?_
  refine mx_aload_n (pc := 4) 0 (mx_dd dd_X2_init 2 (4, .aload_n 0, 1) rfl) rfl rfl ?_
  refine mx_aload_n (pc := 5) 1 (mx_dd dd_X2_init 3 (5, .aload_n 1, 1) rfl) rfl rfl ?_
  obtain ⟨g2, P⟩ := P
  refine mx_putR (pc := 6) mx_fl_X2_9 g2 rfl (.inr ⟨rfl, rfl, rfl⟩) (mx_dd dd_X2_init 4 (6, .putfield 9, 3) rfl) ?_
  have P := P _ rfl
  refine mx_aload_n (pc := 9) 0 (mx_dd dd_X2_init 5 (9, .aload_n 0, 1) rfl) rfl rfl ?_
  refine mx_bipush (pc := 10) (v := (10 : Int32)) (mx_dd dd_X2_init 6 (10, .bipush 10, 2) rfl) (by decide) ?_
  refine mx_newq (pc := 12) (N := 10) (kd := 18) (by decide) rfl mx_an_X2_15 (by decide) (by decide) (by decide) (mx_dd dd_X2_init 7 (12, .anewarray 15, 3) rfl) ?_
  have P := P _ _ rfl rfl
  obtain ⟨g3, P⟩ := P
  refine mx_putR (pc := 15) mx_fl_X2_17 g3 rfl (.inr ⟨rfl, rfl, rfl⟩) (mx_dd dd_X2_init 8 (15, .putfield 17, 3) rfl) ?_
  have P := P _ rfl
  exact mx_return (pc := 18) (mx_dd dd_X2_init 9 (18, .return_, 1) rfl) rfl P
theorem b_X2_at {d : Nat} {h : mxH} {Q : mxRes → mxH → Prop} (x0 : Nat) (x1 : Int32)
    (P : ((x1 < 0 → Q (.inl (some (va_rf none))) h) ∧ (¬ x1 < 0 → (((10 : Int32) ≤ x1 → Q (.inl (some (va_rf none))) h) ∧ (¬ (10 : Int32) ≤ x1 → hpK h x0 = 2 ∧ ∃ b1 : Nat, hpR h x0 1 = some b1 ∧ hpK h b1 = 18 ∧ vp_in x1 (hpZ h b1) ∧ (∀ b, hpR h b1 x1.toNatClampNeg = some b → b < hpN h) ∧ Q (.inl (some (va_rf (hpR h b1 x1.toNatClampNeg)))) h))))) : mx_SM mY_X2_at d [.ref x0, .int x1] h Q := by
  refine mx_SM_of (by decide) (Nat.le_of_ble_eq_true rfl) ?_
  show mx_SX mY_X2_at d 0 [(0, .ref x0), (1, .int x1)] [] h Q
  refine mx_iload_n (pc := 0) 1 (mx_dd dd_X2_at 0 (0, .iload_n 1, 1) rfl) rfl rfl ?_
  refine mx_if_lt (pc := 1) 19 (mx_dd dd_X2_at 1 (1, .ifCond .lt 18, 3) rfl) rfl (fun c1 => ?_) (fun c1 => ?_)
  · have P := P.1 c1
    refine mx_null (pc := 19) (mx_dd dd_X2_at 10 (19, .aconst_null, 1) rfl) ?_
    exact mx_areturnO (pc := 20) (mx_dd dd_X2_at 11 (20, .areturn, 1) rfl) rfl (fun _ q => by cases q) P
  · have P := P.2 c1
    refine mx_iload_n (pc := 4) 1 (mx_dd dd_X2_at 2 (4, .iload_n 1, 1) rfl) rfl rfl ?_
    refine mx_bipush (pc := 5) (v := (10 : Int32)) (mx_dd dd_X2_at 3 (5, .bipush 10, 2) rfl) (by decide) ?_
    refine mx_icmp_ge (pc := 7) 19 (mx_dd dd_X2_at 4 (7, .if_icmp .ge 12, 3) rfl) rfl (fun c7 => ?_) (fun c7 => ?_)
    · have P := P.1 c7
      refine mx_null (pc := 19) (mx_dd dd_X2_at 10 (19, .aconst_null, 1) rfl) ?_
      exact mx_areturnO (pc := 20) (mx_dd dd_X2_at 11 (20, .areturn, 1) rfl) rfl (fun _ q => by cases q) P
    · have P := P.2 c7
      refine mx_aload_n (pc := 10) 0 (mx_dd dd_X2_at 5 (10, .aload_n 0, 1) rfl) rfl rfl ?_
      obtain ⟨g1, P⟩ := P
      obtain ⟨b1, g2, P⟩ := P
      refine mx_getR (pc := 11) mx_fl_X2_17 g1 rfl g2 (mx_dd dd_X2_at 6 (11, .getfield 17, 3) rfl) ?_
      refine mx_iload_n (pc := 14) 1 (mx_dd dd_X2_at 7 (14, .iload_n 1, 1) rfl) rfl rfl ?_
      obtain ⟨g3, P⟩ := P
      obtain ⟨g4, P⟩ := P
      refine mx_aaldO (pc := 15) g3 (by decide) g4 (mx_dd dd_X2_at 8 (15, .aaload, 1) rfl) ?_
      refine mx_goto (pc := 16) 20 (mx_dd dd_X2_at 9 (16, .goto 4, 3) rfl) rfl ?_
      obtain ⟨g5, P⟩ := P
      exact mx_areturnO (pc := 20) (mx_dd dd_X2_at 11 (20, .areturn, 1) rfl) rfl g5 P
theorem b_X2_kindOf {d : Nat} {h : mxH} {Q : mxRes → mxH → Prop} (x0 : Nat) (x1 : Int32)
    (P : 1 ≤ d ∧ hpK h x0 = 2 ∧ mx_SM mY_X2_at (d - 1) [.ref x0, .int x1] h (mx_KR (fun v1 h1 => ((v1 = none → Q (.inl (some (.int (0 : Int32)))) h1) ∧ (∀ b1 : Nat, v1 = some b1 → hpK h1 b1 = 5 ∧ Q (.inl (some (.int (hpI h1 b1 0)))) h1))) (mx_XX mY_X2_kindOf Q))) : mx_SM mY_X2_kindOf d [.ref x0, .int x1] h Q := by
  refine mx_SM_of (by decide) (Nat.le_of_ble_eq_true rfl) ?_
  show mx_SX mY_X2_kindOf d 0 [(0, .ref x0), (1, .int x1)] [] h Q
  refine mx_aload_n (pc := 0) 0 (mx_dd dd_X2_kindOf 0 (0, .aload_n 0, 1) rfl) rfl rfl ?_
  refine mx_iload_n (pc := 1) 1 (mx_dd dd_X2_kindOf 1 (1, .iload_n 1, 1) rfl) rfl rfl ?_
  obtain ⟨g1, P⟩ := P
  obtain ⟨g2, P⟩ := P
  refine mx_cVR (pc := 2) (Y := mY_X2_at) (As := [.int x1]) mx_ml_X2_21 mx_y_X2_at rfl g2 (by decide) rfl (by decide) rfl (mx_dd dd_X2_kindOf 2 (2, .invokevirtual 21, 3) rfl) g1 (by decide) P (fun v1 h1 P => ?_)
  refine mx_astore_nO (pc := 5) (mx_dd dd_X2_kindOf 3 (5, .astore_n 2, 1) rfl) rfl (by decide) (lv' := [(2, _), (0, _), (1, _)]) rfl ?_
  refine mx_aload_nO (pc := 6) 0 (mx_dd dd_X2_kindOf 4 (6, .aload_n 2, 1) rfl) rfl rfl ?_
  refine mx_ifnonnullO (pc := 7) 14 (mx_dd dd_X2_kindOf 5 (7, .ifnonnull 7, 3) rfl) rfl (fun b1 g3 => ?_) (fun c7 => ?_)
  · have P := P.2 b1 g3
    refine mx_aload_nO (pc := 14) 0 (mx_dd dd_X2_kindOf 8 (14, .aload_n 2, 1) rfl) rfl rfl ?_
    refine mx_deref0 g3 ?_
    obtain ⟨g4, P⟩ := P
    refine mx_getI (pc := 15) mx_fl_X2_25 g4 rfl (mx_dd dd_X2_kindOf 9 (15, .getfield 25, 3) rfl) ?_
    exact mx_ireturn (pc := 18) (mx_dd dd_X2_kindOf 10 (18, .ireturn, 1) rfl) rfl rfl P
  · have P := P.1 c7
    refine mx_iconst (pc := 10) (v := (0 : Int32)) (mx_dd dd_X2_kindOf 6 (10, .iconst 0, 1) rfl) (by decide) ?_
    refine mx_goto (pc := 11) 18 (mx_dd dd_X2_kindOf 7 (11, .goto 7, 3) rfl) rfl ?_
    exact mx_ireturn (pc := 18) (mx_dd dd_X2_kindOf 10 (18, .ireturn, 1) rfl) rfl rfl P
theorem b_X2_put {d : Nat} {h : mxH} {Q : mxRes → mxH → Prop} (x0 : Nat) (x1 : Int32) (x2 : Option Nat)
    (P : ((x1 < 0 → Q (.inl none) h) ∧ (¬ x1 < 0 → ((x1 < (10 : Int32) → ((x2 = none → mx_SX mY_X2_put d 25 [(0, .ref x0), (1, .int x1), (2, va_rf x2)] [] h Q) ∧ (∀ b1 : Nat, x2 = some b1 → hpK h b1 = 5 ∧ ∀ h1 : mxH, h1 = hsI h b1 4 ((hpI h b1 4) + (1 : Int32)) → mx_SX mY_X2_put d 25 [(0, .ref x0), (1, .int x1), (2, va_rf x2)] [] h1 Q))) ∧ (¬ x1 < (10 : Int32) → Q (.inl none) h))))) : mx_SM mY_X2_put d [.ref x0, .int x1, va_rf x2] h Q := by
  refine mx_SM_of (by decide) (by cases x2 <;> exact Nat.le_of_ble_eq_true rfl) ?_
  show mx_SX mY_X2_put d 0 [(0, .ref x0), (1, .int x1), (2, va_rf x2)] [] h Q
  refine mx_iload_n (pc := 0) 1 (mx_dd dd_X2_put 0 (0, .iload_n 1, 1) rfl) rfl rfl ?_
  refine mx_if_lt (pc := 1) 10 (mx_dd dd_X2_put 1 (1, .ifCond .lt 9, 3) rfl) rfl (fun c1 => ?_) (fun c1 => ?_)
  · have P := P.1 c1
    exact mx_return (pc := 10) (mx_dd dd_X2_put 5 (10, .return_, 1) rfl) rfl P
  · have P := P.2 c1
    refine mx_iload_n (pc := 4) 1 (mx_dd dd_X2_put 2 (4, .iload_n 1, 1) rfl) rfl rfl ?_
    refine mx_bipush (pc := 5) (v := (10 : Int32)) (mx_dd dd_X2_put 3 (5, .bipush 10, 2) rfl) (by decide) ?_
    refine mx_icmp_lt (pc := 7) 11 (mx_dd dd_X2_put 4 (7, .if_icmp .lt 4, 3) rfl) rfl (fun c7 => ?_) (fun c7 => ?_)
    · have P := P.1 c7
      refine mx_aload_nO (pc := 11) 2 (mx_dd dd_X2_put 6 (11, .aload_n 2, 1) rfl) rfl rfl ?_
      refine mx_ifnullO (pc := 12) 25 (mx_dd dd_X2_put 7 (12, .ifnull 13, 3) rfl) rfl (fun c12 => ?_) (fun b1 g1 => ?_)
      · have P := P.1 c12
        exact P
      · have P := P.2 b1 g1
        refine mx_aload_nO (pc := 15) 2 (mx_dd dd_X2_put 8 (15, .aload_n 2, 1) rfl) rfl rfl ?_
        refine mx_dupO (pc := 16) (mx_dd dd_X2_put 9 (16, .dup, 1) rfl) ?_
        refine mx_deref0 g1 ?_
        obtain ⟨g2, P⟩ := P
        refine mx_getI (pc := 17) mx_fl_X2_29 g2 rfl (mx_dd dd_X2_put 10 (17, .getfield 29, 3) rfl) ?_
        refine mx_iconst (pc := 20) (v := (1 : Int32)) (mx_dd dd_X2_put 11 (20, .iconst 1, 1) rfl) (by decide) ?_
        refine mx_iadd (pc := 21) (mx_dd dd_X2_put 12 (21, .iadd, 1) rfl) ?_
        refine mx_deref1 g1 ?_
        refine mx_putI (pc := 22) mx_fl_X2_29 g2 rfl (.inl rfl) rfl rfl (mx_dd dd_X2_put 13 (22, .putfield 29, 3) rfl) ?_
        have P := P _ rfl
        exact P
    · have P := P.2 c7
      exact mx_return (pc := 10) (mx_dd dd_X2_put 5 (10, .return_, 1) rfl) rfl P
theorem b_X2_put_25 {d : Nat} {h : mxH} {Q : mxRes → mxH → Prop} (x0 : Nat) (x1 : Int32) (x2 : Option Nat)
    (P : hpK h x0 = 2 ∧ ∃ b1 : Nat, hpR h x0 1 = some b1 ∧ hpK h b1 = 18 ∧ vp_in x1 (hpZ h b1) ∧ (∀ b, x2 = some b → hpK h b = 5) ∧ ∀ h1 : mxH, h1 = hsR h b1 x1.toNatClampNeg x2 → ((hpR h b1 x1.toNatClampNeg = none → Q (.inl none) h1) ∧ (∀ b2 : Nat, hpR h b1 x1.toNatClampNeg = some b2 → hpK h1 b2 = 5 ∧ ∀ h2 : mxH, h2 = hsI h1 b2 4 ((hpI h1 b2 4) - (1 : Int32)) → ((0 < (hpI h2 b2 4) → Q (.inl none) h2) ∧ (¬ 0 < (hpI h2 b2 4) → ∃ b3 : Nat, hpR h2 x0 0 = some b3 ∧ hpK h2 b3 = 0 ∧ ∀ h3 : mxH, h3 = hsR h2 b2 5 (hpR h2 b3 0) → ∃ b4 : Nat, hpR h3 x0 0 = some b4 ∧ hpK h3 b4 = 0 ∧ ∀ h4 : mxH, h4 = hsR h3 b4 0 (hpR h b1 x1.toNatClampNeg) → Q (.inl none) h4))))) : mx_SX mY_X2_put d 25 [(0, .ref x0), (1, .int x1), (2, va_rf x2)] [] h Q := by
  refine mx_aload_n (pc := 25) 0 (mx_dd dd_X2_put 14 (25, .aload_n 0, 1) rfl) rfl rfl ?_
  obtain ⟨g1, P⟩ := P
  obtain ⟨b1, g2, P⟩ := P
  refine mx_getR (pc := 26) mx_fl_X2_17 g1 rfl g2 (mx_dd dd_X2_put 15 (26, .getfield 17, 3) rfl) ?_
  refine mx_iload_n (pc := 29) 1 (mx_dd dd_X2_put 16 (29, .iload_n 1, 1) rfl) rfl rfl ?_
  obtain ⟨g3, P⟩ := P
  obtain ⟨g4, P⟩ := P
  refine mx_aaldO (pc := 30) g3 (by decide) g4 (mx_dd dd_X2_put 17 (30, .aaload, 1) rfl) ?_
  refine mx_astore_nO (pc := 31) (mx_dd dd_X2_put 18 (31, .astore_n 3, 1) rfl) rfl (by decide) rfl ?_
  refine mx_stoK [0, 1, 2] (lv2 := [(0, _), (1, _), (2, _)]) rfl ⟨⟨rfl, .inl rfl⟩, ⟨⟨rfl, .inl rfl⟩, ⟨⟨rfl, .inr mx_catO⟩, trivial⟩⟩⟩ ?_
  refine mx_aload_n (pc := 32) 1 (mx_dd dd_X2_put 19 (32, .aload_n 0, 1) rfl) rfl rfl ?_
  refine mx_getR (pc := 33) mx_fl_X2_17 g1 rfl g2 (mx_dd dd_X2_put 20 (33, .getfield 17, 3) rfl) ?_
  refine mx_iload_n (pc := 36) 2 (mx_dd dd_X2_put 21 (36, .iload_n 1, 1) rfl) rfl rfl ?_
  refine mx_aload_nO (pc := 37) 3 (mx_dd dd_X2_put 22 (37, .aload_n 2, 1) rfl) rfl rfl ?_
  obtain ⟨g5, P⟩ := P
  refine mx_aastO (pc := 38) g3 (by decide) g5 (by decide) rfl g4 (mx_dd dd_X2_put 23 (38, .aastore, 1) rfl) ?_
  have P := P _ rfl
  refine mx_aload_nO (pc := 39) 0 (mx_dd dd_X2_put 24 (39, .aload_n 3, 1) rfl) rfl rfl ?_
  refine mx_ifnullO (pc := 40) 79 (mx_dd dd_X2_put 25 (40, .ifnull 39, 3) rfl) rfl (fun c40 => ?_) (fun b2 g6 => ?_)
  · have P := P.1 c40
    exact mx_return (pc := 79) (mx_dd dd_X2_put 44 (79, .return_, 1) rfl) rfl P
  · have P := P.2 b2 g6
    refine mx_aload_nO (pc := 43) 0 (mx_dd dd_X2_put 26 (43, .aload_n 3, 1) rfl) rfl rfl ?_
    refine mx_dupO (pc := 44) (mx_dd dd_X2_put 27 (44, .dup, 1) rfl) ?_
    refine mx_deref0 g6 ?_
    obtain ⟨g7, P⟩ := P
    refine mx_getI (pc := 45) mx_fl_X2_29 g7 rfl (mx_dd dd_X2_put 28 (45, .getfield 29, 3) rfl) ?_
    refine mx_iconst (pc := 48) (v := (1 : Int32)) (mx_dd dd_X2_put 29 (48, .iconst 1, 1) rfl) (by decide) ?_
    refine mx_isub (pc := 49) (mx_dd dd_X2_put 30 (49, .isub, 1) rfl) ?_
    refine mx_deref1 g6 ?_
    refine mx_putI (pc := 50) mx_fl_X2_29 g7 rfl (.inl rfl) rfl rfl (mx_dd dd_X2_put 31 (50, .putfield 29, 3) rfl) ?_
    have P := P _ rfl
    refine mx_aload_nO (pc := 53) 0 (mx_dd dd_X2_put 32 (53, .aload_n 3, 1) rfl) rfl rfl ?_
    refine mx_deref0 g6 ?_
    refine mx_getI (pc := 54) mx_fl_X2_29 g7 rfl (mx_dd dd_X2_put 33 (54, .getfield 29, 3) rfl) ?_
    refine mx_if_gt (pc := 57) 79 (mx_dd dd_X2_put 34 (57, .ifCond .gt 22, 3) rfl) rfl (fun c57 => ?_) (fun c57 => ?_)
    · have P := P.1 c57
      exact mx_return (pc := 79) (mx_dd dd_X2_put 44 (79, .return_, 1) rfl) rfl P
    · have P := P.2 c57
      refine mx_aload_nO (pc := 60) 0 (mx_dd dd_X2_put 35 (60, .aload_n 3, 1) rfl) rfl rfl ?_
      refine mx_aload_n (pc := 61) 1 (mx_dd dd_X2_put 36 (61, .aload_n 0, 1) rfl) rfl rfl ?_
      obtain ⟨b3, g8, P⟩ := P
      refine mx_getR (pc := 62) mx_fl_X2_9 g1 rfl g8 (mx_dd dd_X2_put 37 (62, .getfield 9, 3) rfl) ?_
      obtain ⟨g9, P⟩ := P
      refine mx_getO (pc := 65) mx_fl_X2_32 g9 rfl (mx_dd dd_X2_put 38 (65, .getfield 32, 3) rfl) ?_
      refine mx_deref1 g6 ?_
      refine mx_putO (pc := 68) mx_fl_X2_38 g7 rfl (.inl rfl) (mx_dd dd_X2_put 39 (68, .putfield 38, 3) rfl) ?_
      have P := P _ rfl
      refine mx_aload_n (pc := 71) 1 (mx_dd dd_X2_put 40 (71, .aload_n 0, 1) rfl) rfl rfl ?_
      obtain ⟨b4, g10, P⟩ := P
      refine mx_getR (pc := 72) mx_fl_X2_9 g1 rfl g10 (mx_dd dd_X2_put 41 (72, .getfield 9, 3) rfl) ?_
      refine mx_aload_nO (pc := 75) 0 (mx_dd dd_X2_put 42 (75, .aload_n 3, 1) rfl) rfl rfl ?_
      obtain ⟨g11, P⟩ := P
      refine mx_putO (pc := 76) mx_fl_X2_32 g11 rfl (.inl rfl) (mx_dd dd_X2_put 43 (76, .putfield 32, 3) rfl) ?_
      have P := P _ rfl
      exact mx_return (pc := 79) (mx_dd dd_X2_put 44 (79, .return_, 1) rfl) rfl P
theorem b_X2_closeAll {d : Nat} {h : mxH} {Q : mxRes → mxH → Prop} (x0 : Nat)
    (P : mx_SX mY_X2_closeAll d 2 [(0, .ref x0), (1, .int (0 : Int32))] [] h Q) : mx_SM mY_X2_closeAll d [.ref x0] h Q := by
  refine mx_SM_of (by decide) (Nat.le_of_ble_eq_true rfl) ?_
  show mx_SX mY_X2_closeAll d 0 [(0, .ref x0)] [] h Q
  refine mx_iconst (pc := 0) (v := (0 : Int32)) (mx_dd dd_X2_closeAll 0 (0, .iconst 0, 1) rfl) (by decide) ?_
  refine mx_istore_n (pc := 1) (mx_dd dd_X2_closeAll 1 (1, .istore_n 1, 1) rfl) rfl (by decide) (lv' := [(1, _), (0, _)]) rfl ?_
  refine mx_sel [1, 0] rfl ?_
  exact P
theorem b_X2_closeAll_2 {d : Nat} {h : mxH} {Q : mxRes → mxH → Prop} (x0 : Nat) (x1 : Int32)
    (P : (((10 : Int32) ≤ x1 → Q (.inl none) h) ∧ (¬ (10 : Int32) ≤ x1 → 1 ≤ d ∧ hpK h x0 = 2 ∧ mx_SM mY_X2_put (d - 1) [.ref x0, .int x1, va_rf none] h (mx_KV (fun h1 => mx_SX mY_X2_closeAll d 2 [(0, .ref x0), (1, .int (x1 + (1 : Int32)))] [] h1 Q) (mx_XX mY_X2_closeAll Q))))) : mx_SX mY_X2_closeAll d 2 [(0, .ref x0), (1, .int x1)] [] h Q := by
  refine mx_iload_n (pc := 2) 1 (mx_dd dd_X2_closeAll 2 (2, .iload_n 1, 1) rfl) rfl rfl ?_
  refine mx_bipush (pc := 3) (v := (10 : Int32)) (mx_dd dd_X2_closeAll 3 (3, .bipush 10, 2) rfl) (by decide) ?_
  refine mx_icmp_ge (pc := 5) 20 (mx_dd dd_X2_closeAll 4 (5, .if_icmp .ge 15, 3) rfl) rfl (fun c5 => ?_) (fun c5 => ?_)
  · have P := P.1 c5
    exact mx_return (pc := 20) (mx_dd dd_X2_closeAll 11 (20, .return_, 1) rfl) rfl P
  · have P := P.2 c5
    refine mx_aload_n (pc := 8) 0 (mx_dd dd_X2_closeAll 5 (8, .aload_n 0, 1) rfl) rfl rfl ?_
    refine mx_iload_n (pc := 9) 1 (mx_dd dd_X2_closeAll 6 (9, .iload_n 1, 1) rfl) rfl rfl ?_
    refine mx_null (pc := 10) (mx_dd dd_X2_closeAll 7 (10, .aconst_null, 1) rfl) ?_
    obtain ⟨g1, P⟩ := P
    obtain ⟨g2, P⟩ := P
    refine mx_cVV (pc := 11) (Y := mY_X2_put) (As := [.int x1, va_rf none]) mx_ml_X2_41 mx_y_X2_put rfl g2 (by decide) rfl (by decide) rfl (mx_dd dd_X2_closeAll 8 (11, .invokevirtual 41, 3) rfl) g1 (by decide) P (fun h1 P => ?_)
    refine mx_iinc (pc := 14) 1 (mx_dd dd_X2_closeAll 9 (14, .iinc 1 1, 3) rfl) rfl (mx_kadd (by decide : Int32.ofInt 1 = (1 : Int32))) (by decide) (lv' := [(1, _), (0, _)]) rfl ?_
    refine mx_goto (pc := 17) 2 (mx_dd dd_X2_closeAll 10 (17, .goto (-15), 3) rfl) rfl ?_
    refine mx_sel [1, 0] rfl ?_
    exact P
theorem b_X2_copyFrom {d : Nat} {h : mxH} {Q : mxRes → mxH → Prop} (x0 : Nat) (x1 : Nat)
    (P : mx_SX mY_X2_copyFrom d 2 [(0, .ref x0), (1, .ref x1), (2, .int (0 : Int32))] [] h Q) : mx_SM mY_X2_copyFrom d [.ref x0, .ref x1] h Q := by
  refine mx_SM_of (by decide) (Nat.le_of_ble_eq_true rfl) ?_
  show mx_SX mY_X2_copyFrom d 0 [(0, .ref x0), (1, .ref x1)] [] h Q
  refine mx_iconst (pc := 0) (v := (0 : Int32)) (mx_dd dd_X2_copyFrom 0 (0, .iconst 0, 1) rfl) (by decide) ?_
  refine mx_istore_n (pc := 1) (mx_dd dd_X2_copyFrom 1 (1, .istore_n 2, 1) rfl) rfl (by decide) (lv' := [(2, _), (0, _), (1, _)]) rfl ?_
  refine mx_sel [1, 2, 0] rfl ?_
  exact P
theorem b_X2_copyFrom_2 {d : Nat} {h : mxH} {Q : mxRes → mxH → Prop} (x0 : Nat) (x1 : Nat) (x2 : Int32)
    (P : (((10 : Int32) ≤ x2 → Q (.inl none) h) ∧ (¬ (10 : Int32) ≤ x2 → hpK h x1 = 2 ∧ ∃ b1 : Nat, hpR h x1 1 = some b1 ∧ hpK h b1 = 18 ∧ vp_in x2 (hpZ h b1) ∧ 1 ≤ d ∧ hpK h x0 = 2 ∧ mx_SM mY_X2_put (d - 1) [.ref x0, .int x2, va_rf (hpR h b1 x2.toNatClampNeg)] h (mx_KV (fun h1 => mx_SX mY_X2_copyFrom d 2 [(0, .ref x0), (1, .ref x1), (2, .int (x2 + (1 : Int32)))] [] h1 Q) (mx_XX mY_X2_copyFrom Q))))) : mx_SX mY_X2_copyFrom d 2 [(0, .ref x0), (1, .ref x1), (2, .int x2)] [] h Q := by
  refine mx_iload_n (pc := 2) 2 (mx_dd dd_X2_copyFrom 2 (2, .iload_n 2, 1) rfl) rfl rfl ?_
  refine mx_bipush (pc := 3) (v := (10 : Int32)) (mx_dd dd_X2_copyFrom 3 (3, .bipush 10, 2) rfl) (by decide) ?_
  refine mx_icmp_ge (pc := 5) 25 (mx_dd dd_X2_copyFrom 4 (5, .if_icmp .ge 20, 3) rfl) rfl (fun c5 => ?_) (fun c5 => ?_)
  · have P := P.1 c5
    exact mx_return (pc := 25) (mx_dd dd_X2_copyFrom 14 (25, .return_, 1) rfl) rfl P
  · have P := P.2 c5
    refine mx_aload_n (pc := 8) 0 (mx_dd dd_X2_copyFrom 5 (8, .aload_n 0, 1) rfl) rfl rfl ?_
    refine mx_iload_n (pc := 9) 2 (mx_dd dd_X2_copyFrom 6 (9, .iload_n 2, 1) rfl) rfl rfl ?_
    refine mx_aload_n (pc := 10) 1 (mx_dd dd_X2_copyFrom 7 (10, .aload_n 1, 1) rfl) rfl rfl ?_
    obtain ⟨g1, P⟩ := P
    obtain ⟨b1, g2, P⟩ := P
    refine mx_getR (pc := 11) mx_fl_X2_17 g1 rfl g2 (mx_dd dd_X2_copyFrom 8 (11, .getfield 17, 3) rfl) ?_
    refine mx_iload_n (pc := 14) 2 (mx_dd dd_X2_copyFrom 9 (14, .iload_n 2, 1) rfl) rfl rfl ?_
    obtain ⟨g3, P⟩ := P
    obtain ⟨g4, P⟩ := P
    refine mx_aaldO (pc := 15) g3 (by decide) g4 (mx_dd dd_X2_copyFrom 10 (15, .aaload, 1) rfl) ?_
    obtain ⟨g5, P⟩ := P
    obtain ⟨g6, P⟩ := P
    refine mx_cVV (pc := 16) (Y := mY_X2_put) (As := [.int x2, va_rf (hpR h b1 x2.toNatClampNeg)]) mx_ml_X2_41 mx_y_X2_put rfl g6 (by decide) rfl (by decide) rfl (mx_dd dd_X2_copyFrom 11 (16, .invokevirtual 41, 3) rfl) g5 (by decide) P (fun h1 P => ?_)
    refine mx_iinc (pc := 19) 2 (mx_dd dd_X2_copyFrom 12 (19, .iinc 2 1, 3) rfl) rfl (mx_kadd (by decide : Int32.ofInt 1 = (1 : Int32))) (by decide) (lv' := [(2, _), (0, _), (1, _)]) rfl ?_
    refine mx_goto (pc := 22) 2 (mx_dd dd_X2_copyFrom 13 (22, .goto (-20), 3) rfl) rfl ?_
    refine mx_sel [1, 2, 0] rfl ?_
    exact P
theorem b_X2_beginAnew {d : Nat} {h : mxH} {Q : mxRes → mxH → Prop} (x0 : Nat)
    (P : 1 ≤ d ∧ hpK h x0 = 2 ∧ mx_SM mY_X2_closeAll (d - 1) [.ref x0] h (mx_KV (fun h1 => hpK h1 x0 = 2 ∧ ∃ b1 : Nat, hpR h1 x0 0 = some b1 ∧ hpK h1 b1 = 0 ∧ mx_SM mY_X0_open (d - 1) [.ref b1, .int (1 : Int32), .int (-1 : Int32), .int (-1 : Int32), .int (0 : Int32)] h1 (mx_KR (fun v1 h2 => hpK h2 x0 = 2 ∧ mx_SM mY_X2_put (d - 1) [.ref x0, .int (0 : Int32), va_rf v1] h2 (mx_KV (fun h3 => hpK h3 x0 = 2 ∧ mx_SM mY_X2_put (d - 1) [.ref x0, .int (1 : Int32), va_rf v1] h3 (mx_KV (fun h4 => hpK h4 x0 = 2 ∧ mx_SM mY_X2_put (d - 1) [.ref x0, .int (2 : Int32), va_rf v1] h4 (mx_KV (fun h5 => Q (.inl none) h5) (mx_XX mY_X2_beginAnew Q))) (mx_XX mY_X2_beginAnew Q))) (mx_XX mY_X2_beginAnew Q))) (mx_XX mY_X2_beginAnew Q))) (mx_XX mY_X2_beginAnew Q))) : mx_SM mY_X2_beginAnew d [.ref x0] h Q := by
  refine mx_SM_of (by decide) (Nat.le_of_ble_eq_true rfl) ?_
  show mx_SX mY_X2_beginAnew d 0 [(0, .ref x0)] [] h Q
  refine mx_aload_n (pc := 0) 0 (mx_dd dd_X2_beginAnew 0 (0, .aload_n 0, 1) rfl) rfl rfl ?_
  obtain ⟨g1, P⟩ := P
  obtain ⟨g2, P⟩ := P
  refine mx_cVV (pc := 1) (Y := mY_X2_closeAll) (As := []) mx_ml_X2_45 mx_y_X2_closeAll rfl g2 (by decide) rfl (by decide) rfl (mx_dd dd_X2_beginAnew 1 (1, .invokevirtual 45, 3) rfl) g1 (by decide) P (fun h1 P => ?_)
  refine mx_aload_n (pc := 4) 0 (mx_dd dd_X2_beginAnew 2 (4, .aload_n 0, 1) rfl) rfl rfl ?_
  obtain ⟨g3, P⟩ := P
  obtain ⟨b1, g4, P⟩ := P
  refine mx_getR (pc := 5) mx_fl_X2_9 g3 rfl g4 (mx_dd dd_X2_beginAnew 3 (5, .getfield 9, 3) rfl) ?_
  refine mx_iconst (pc := 8) (v := (1 : Int32)) (mx_dd dd_X2_beginAnew 4 (8, .iconst 1, 1) rfl) (by decide) ?_
  refine mx_iconst (pc := 9) (v := (-1 : Int32)) (mx_dd dd_X2_beginAnew 5 (9, .iconst (-1), 1) rfl) (by decide) ?_
  refine mx_iconst (pc := 10) (v := (-1 : Int32)) (mx_dd dd_X2_beginAnew 6 (10, .iconst (-1), 1) rfl) (by decide) ?_
  refine mx_iconst (pc := 11) (v := (0 : Int32)) (mx_dd dd_X2_beginAnew 7 (11, .iconst 0, 1) rfl) (by decide) ?_
  obtain ⟨g5, P⟩ := P
  refine mx_cVR (pc := 12) (Y := mY_X0_open) (As := [.int (1 : Int32), .int (-1 : Int32), .int (-1 : Int32), .int (0 : Int32)]) mx_ml_X2_48 mx_y_X0_open rfl g5 (by decide) rfl (by decide) rfl (mx_dd dd_X2_beginAnew 8 (12, .invokevirtual 48, 3) rfl) g1 (by decide) P (fun v1 h2 P => ?_)
  refine mx_astore_nO (pc := 15) (mx_dd dd_X2_beginAnew 9 (15, .astore_n 1, 1) rfl) rfl (by decide) (lv' := [(1, _), (0, _)]) rfl ?_
  refine mx_aload_n (pc := 16) 1 (mx_dd dd_X2_beginAnew 10 (16, .aload_n 0, 1) rfl) rfl rfl ?_
  refine mx_iconst (pc := 17) (v := (0 : Int32)) (mx_dd dd_X2_beginAnew 11 (17, .iconst 0, 1) rfl) (by decide) ?_
  refine mx_aload_nO (pc := 18) 0 (mx_dd dd_X2_beginAnew 12 (18, .aload_n 1, 1) rfl) rfl rfl ?_
  obtain ⟨g6, P⟩ := P
  refine mx_cVV (pc := 19) (Y := mY_X2_put) (As := [.int (0 : Int32), va_rf v1]) mx_ml_X2_41 mx_y_X2_put rfl g6 (by decide) rfl (by decide) rfl (mx_dd dd_X2_beginAnew 13 (19, .invokevirtual 41, 3) rfl) g1 (by decide) P (fun h3 P => ?_)
  refine mx_aload_n (pc := 22) 1 (mx_dd dd_X2_beginAnew 14 (22, .aload_n 0, 1) rfl) rfl rfl ?_
  refine mx_iconst (pc := 23) (v := (1 : Int32)) (mx_dd dd_X2_beginAnew 15 (23, .iconst 1, 1) rfl) (by decide) ?_
  refine mx_aload_nO (pc := 24) 0 (mx_dd dd_X2_beginAnew 16 (24, .aload_n 1, 1) rfl) rfl rfl ?_
  obtain ⟨g7, P⟩ := P
  refine mx_cVV (pc := 25) (Y := mY_X2_put) (As := [.int (1 : Int32), va_rf v1]) mx_ml_X2_41 mx_y_X2_put rfl g7 (by decide) rfl (by decide) rfl (mx_dd dd_X2_beginAnew 17 (25, .invokevirtual 41, 3) rfl) g1 (by decide) P (fun h4 P => ?_)
  refine mx_aload_n (pc := 28) 1 (mx_dd dd_X2_beginAnew 18 (28, .aload_n 0, 1) rfl) rfl rfl ?_
  refine mx_iconst (pc := 29) (v := (2 : Int32)) (mx_dd dd_X2_beginAnew 19 (29, .iconst 2, 1) rfl) (by decide) ?_
  refine mx_aload_nO (pc := 30) 0 (mx_dd dd_X2_beginAnew 20 (30, .aload_n 1, 1) rfl) rfl rfl ?_
  obtain ⟨g8, P⟩ := P
  refine mx_cVV (pc := 31) (Y := mY_X2_put) (As := [.int (2 : Int32), va_rf v1]) mx_ml_X2_41 mx_y_X2_put rfl g8 (by decide) rfl (by decide) rfl (mx_dd dd_X2_beginAnew 21 (31, .invokevirtual 41, 3) rfl) g1 (by decide) P (fun h5 P => ?_)
  exact mx_return (pc := 34) (mx_dd dd_X2_beginAnew 22 (34, .return_, 1) rfl) rfl P
theorem b_X2_copyApart {d : Nat} {h : mxH} {Q : mxRes → mxH → Prop} (x0 : Nat) (x1 : Nat)
    (P : mx_SX mY_X2_copyApart d 2 [(0, .ref x0), (1, .ref x1), (2, .int (0 : Int32))] [] h Q) : mx_SM mY_X2_copyApart d [.ref x0, .ref x1] h Q := by
  refine mx_SM_of (by decide) (Nat.le_of_ble_eq_true rfl) ?_
  show mx_SX mY_X2_copyApart d 0 [(0, .ref x0), (1, .ref x1)] [] h Q
  refine mx_iconst (pc := 0) (v := (0 : Int32)) (mx_dd dd_X2_copyApart 0 (0, .iconst 0, 1) rfl) (by decide) ?_
  refine mx_istore_n (pc := 1) (mx_dd dd_X2_copyApart 1 (1, .istore_n 2, 1) rfl) rfl (by decide) (lv' := [(2, _), (0, _), (1, _)]) rfl ?_
  refine mx_sel [1, 2, 0] rfl ?_
  exact P
theorem b_X2_copyApart_2 {d : Nat} {h : mxH} {Q : mxRes → mxH → Prop} (x0 : Nat) (x1 : Nat) (x2 : Int32)
    (P : (((10 : Int32) ≤ x2 → Q (.inl none) h) ∧ (¬ (10 : Int32) ≤ x2 → hpK h x1 = 2 ∧ ∃ b1 : Nat, hpR h x1 1 = some b1 ∧ hpK h b1 = 18 ∧ vp_in x2 (hpZ h b1) ∧ 1 ≤ d ∧ mx_SM mY_X2_firstSharer (d - 1) [.ref x1, .int x2] h (mx_KI (fun v1 h1 => ((hpR h b1 x2.toNatClampNeg = none → hpK h1 x0 = 2 ∧ mx_SM mY_X2_put (d - 1) [.ref x0, .int x2, va_rf none] h1 (mx_KV (fun h2 => mx_SX mY_X2_copyApart d 84 [(0, .ref x0), (1, .ref x1), (2, .int x2)] [] h2 Q) (mx_XX mY_X2_copyApart Q))) ∧ (∀ b2 : Nat, hpR h b1 x2.toNatClampNeg = some b2 → ((x2 ≤ v1 → hpK h1 x0 = 2 ∧ ∃ b3 : Nat, hpR h1 x0 0 = some b3 ∧ hpK h1 b2 = 5 ∧ hpK h1 b3 = 0 ∧ mx_SM mY_X0_open (d - 1) [.ref b3, .int (hpI h1 b2 0), .int (hpI h1 b2 1), .int (hpI h1 b2 2), .int (hpI h1 b2 3)] h1 (mx_KR (fun v2 h3 => hpK h3 x0 = 2 ∧ mx_SM mY_X2_put (d - 1) [.ref x0, .int x2, va_rf v2] h3 (mx_KV (fun h4 => mx_SX mY_X2_copyApart d 84 [(0, .ref x0), (1, .ref x1), (2, .int x2)] [] h4 Q) (mx_XX mY_X2_copyApart Q))) (mx_XX mY_X2_copyApart Q))) ∧ (¬ x2 ≤ v1 → hpK h1 x0 = 2 ∧ ∃ b4 : Nat, hpR h1 x0 1 = some b4 ∧ hpK h1 b4 = 18 ∧ vp_in v1 (hpZ h1 b4) ∧ mx_SM mY_X2_put (d - 1) [.ref x0, .int x2, va_rf (hpR h1 b4 v1.toNatClampNeg)] h1 (mx_KV (fun h5 => mx_SX mY_X2_copyApart d 84 [(0, .ref x0), (1, .ref x1), (2, .int x2)] [] h5 Q) (mx_XX mY_X2_copyApart Q))))))) (mx_XX mY_X2_copyApart Q))))) : mx_SX mY_X2_copyApart d 2 [(0, .ref x0), (1, .ref x1), (2, .int x2)] [] h Q := by
  refine mx_iload_n (pc := 2) 2 (mx_dd dd_X2_copyApart 2 (2, .iload_n 2, 1) rfl) rfl rfl ?_
  refine mx_bipush (pc := 3) (v := (10 : Int32)) (mx_dd dd_X2_copyApart 3 (3, .bipush 10, 2) rfl) (by decide) ?_
  refine mx_icmp_ge (pc := 5) 90 (mx_dd dd_X2_copyApart 4 (5, .if_icmp .ge 85, 3) rfl) rfl (fun c5 => ?_) (fun c5 => ?_)
  · have P := P.1 c5
    exact mx_return (pc := 90) (mx_dd dd_X2_copyApart 48 (90, .return_, 1) rfl) rfl P
  · have P := P.2 c5
    refine mx_aload_n (pc := 8) 1 (mx_dd dd_X2_copyApart 5 (8, .aload_n 1, 1) rfl) rfl rfl ?_
    obtain ⟨g1, P⟩ := P
    obtain ⟨b1, g2, P⟩ := P
    refine mx_getR (pc := 9) mx_fl_X2_17 g1 rfl g2 (mx_dd dd_X2_copyApart 6 (9, .getfield 17, 3) rfl) ?_
    refine mx_iload_n (pc := 12) 2 (mx_dd dd_X2_copyApart 7 (12, .iload_n 2, 1) rfl) rfl rfl ?_
    obtain ⟨g3, P⟩ := P
    obtain ⟨g4, P⟩ := P
    refine mx_aaldO (pc := 13) g3 (by decide) g4 (mx_dd dd_X2_copyApart 8 (13, .aaload, 1) rfl) ?_
    refine mx_astore_nO (pc := 14) (mx_dd dd_X2_copyApart 9 (14, .astore_n 3, 1) rfl) rfl (by decide) (lv' := [(3, _), (0, _), (1, _), (2, _)]) rfl ?_
    refine mx_aload_n (pc := 15) 2 (mx_dd dd_X2_copyApart 10 (15, .aload_n 1, 1) rfl) rfl rfl ?_
    refine mx_iload_n (pc := 16) 3 (mx_dd dd_X2_copyApart 11 (16, .iload_n 2, 1) rfl) rfl rfl ?_
    obtain ⟨g5, P⟩ := P
    refine mx_cVI (pc := 17) (Y := mY_X2_firstSharer) (As := [.int x2]) mx_ml_X2_52 mx_y_X2_firstSharer rfl g1 (by decide) rfl (by decide) rfl (mx_dd dd_X2_copyApart 12 (17, .invokevirtual 52, 3) rfl) g5 (by decide) P (fun v1 h1 P => ?_)
    refine mx_istore (pc := 20) (mx_dd dd_X2_copyApart 13 (20, .istore 4, 2) rfl) (by decide) rfl ?_
    refine mx_stoK [0, 1, 2, 3] (lv2 := [(3, _), (0, _), (1, _), (2, _)]) rfl ⟨⟨rfl, .inr mx_catO⟩, ⟨⟨rfl, .inl rfl⟩, ⟨⟨rfl, .inl rfl⟩, ⟨⟨rfl, .inl rfl⟩, trivial⟩⟩⟩⟩ ?_
    refine mx_aload_nO (pc := 22) 1 (mx_dd dd_X2_copyApart 14 (22, .aload_n 3, 1) rfl) rfl rfl ?_
    refine mx_ifnonnullO (pc := 23) 35 (mx_dd dd_X2_copyApart 15 (23, .ifnonnull 12, 3) rfl) rfl (fun b2 g6 => ?_) (fun c23 => ?_)
    · have P := P.2 b2 g6
      refine mx_iload (pc := 35) 0 (mx_dd dd_X2_copyApart 21 (35, .iload 4, 2) rfl) rfl ?_
      refine mx_iload_n (pc := 37) 4 (mx_dd dd_X2_copyApart 22 (37, .iload_n 2, 1) rfl) rfl rfl ?_
      refine mx_icmp_ge (pc := 38) 56 (mx_dd dd_X2_copyApart 23 (38, .if_icmp .ge 18, 3) rfl) rfl (fun c38 => ?_) (fun c38 => ?_)
      · have P := P.1 c38
        refine mx_aload_n (pc := 56) 2 (mx_dd dd_X2_copyApart 32 (56, .aload_n 0, 1) rfl) rfl rfl ?_
        refine mx_iload_n (pc := 57) 4 (mx_dd dd_X2_copyApart 33 (57, .iload_n 2, 1) rfl) rfl rfl ?_
        refine mx_aload_n (pc := 58) 2 (mx_dd dd_X2_copyApart 34 (58, .aload_n 0, 1) rfl) rfl rfl ?_
        obtain ⟨g8, P⟩ := P
        obtain ⟨b3, g9, P⟩ := P
        refine mx_getR (pc := 59) mx_fl_X2_9 g8 rfl g9 (mx_dd dd_X2_copyApart 35 (59, .getfield 9, 3) rfl) ?_
        refine mx_aload_nO (pc := 62) 1 (mx_dd dd_X2_copyApart 36 (62, .aload_n 3, 1) rfl) rfl rfl ?_
        refine mx_deref0 g6 ?_
        obtain ⟨g10, P⟩ := P
        refine mx_getI (pc := 63) mx_fl_X2_25 g10 rfl (mx_dd dd_X2_copyApart 37 (63, .getfield 25, 3) rfl) ?_
        refine mx_aload_nO (pc := 66) 1 (mx_dd dd_X2_copyApart 38 (66, .aload_n 3, 1) rfl) rfl rfl ?_
        refine mx_deref0 g6 ?_
        refine mx_getI (pc := 67) mx_fl_X2_56 g10 rfl (mx_dd dd_X2_copyApart 39 (67, .getfield 56, 3) rfl) ?_
        refine mx_aload_nO (pc := 70) 1 (mx_dd dd_X2_copyApart 40 (70, .aload_n 3, 1) rfl) rfl rfl ?_
        refine mx_deref0 g6 ?_
        refine mx_getI (pc := 71) mx_fl_X2_59 g10 rfl (mx_dd dd_X2_copyApart 41 (71, .getfield 59, 3) rfl) ?_
        refine mx_aload_nO (pc := 74) 1 (mx_dd dd_X2_copyApart 42 (74, .aload_n 3, 1) rfl) rfl rfl ?_
        refine mx_deref0 g6 ?_
        refine mx_getI (pc := 75) mx_fl_X2_62 g10 rfl (mx_dd dd_X2_copyApart 43 (75, .getfield 62, 3) rfl) ?_
        obtain ⟨g11, P⟩ := P
        refine mx_cVR (pc := 78) (Y := mY_X0_open) (As := [.int (hpI h1 b2 0), .int (hpI h1 b2 1), .int (hpI h1 b2 2), .int (hpI h1 b2 3)]) mx_ml_X2_48 mx_y_X0_open rfl g11 (by decide) rfl (by simp [Value.category]) rfl (mx_dd dd_X2_copyApart 44 (78, .invokevirtual 48, 3) rfl) g5 (by decide) P (fun v2 h3 P => ?_)
        obtain ⟨g12, P⟩ := P
        refine mx_cVV (pc := 81) (Y := mY_X2_put) (As := [.int x2, va_rf v2]) mx_ml_X2_41 mx_y_X2_put rfl g12 (by decide) rfl (by decide) rfl (mx_dd dd_X2_copyApart 45 (81, .invokevirtual 41, 3) rfl) g5 (by decide) P (fun h4 P => ?_)
        refine mx_sel [2, 3, 4] rfl ?_
        exact P
      · have P := P.2 c38
        refine mx_aload_n (pc := 41) 2 (mx_dd dd_X2_copyApart 24 (41, .aload_n 0, 1) rfl) rfl rfl ?_
        refine mx_iload_n (pc := 42) 4 (mx_dd dd_X2_copyApart 25 (42, .iload_n 2, 1) rfl) rfl rfl ?_
        refine mx_aload_n (pc := 43) 2 (mx_dd dd_X2_copyApart 26 (43, .aload_n 0, 1) rfl) rfl rfl ?_
        obtain ⟨g13, P⟩ := P
        obtain ⟨b4, g14, P⟩ := P
        refine mx_getR (pc := 44) mx_fl_X2_17 g13 rfl g14 (mx_dd dd_X2_copyApart 27 (44, .getfield 17, 3) rfl) ?_
        refine mx_iload (pc := 47) 0 (mx_dd dd_X2_copyApart 28 (47, .iload 4, 2) rfl) rfl ?_
        obtain ⟨g15, P⟩ := P
        obtain ⟨g16, P⟩ := P
        refine mx_aaldO (pc := 49) g15 (by decide) g16 (mx_dd dd_X2_copyApart 29 (49, .aaload, 1) rfl) ?_
        refine mx_cVV (pc := 50) (Y := mY_X2_put) (As := [.int x2, va_rf (hpR h1 b4 v1.toNatClampNeg)]) mx_ml_X2_41 mx_y_X2_put rfl g13 (by decide) rfl (by decide) rfl (mx_dd dd_X2_copyApart 30 (50, .invokevirtual 41, 3) rfl) g5 (by decide) P (fun h5 P => ?_)
        refine mx_goto (pc := 53) 84 (mx_dd dd_X2_copyApart 31 (53, .goto 31, 3) rfl) rfl ?_
        refine mx_sel [2, 3, 4] rfl ?_
        exact P
    · have P := P.1 c23
      refine mx_aload_n (pc := 26) 2 (mx_dd dd_X2_copyApart 16 (26, .aload_n 0, 1) rfl) rfl rfl ?_
      refine mx_iload_n (pc := 27) 4 (mx_dd dd_X2_copyApart 17 (27, .iload_n 2, 1) rfl) rfl rfl ?_
      refine mx_null (pc := 28) (mx_dd dd_X2_copyApart 18 (28, .aconst_null, 1) rfl) ?_
      obtain ⟨g7, P⟩ := P
      refine mx_cVV (pc := 29) (Y := mY_X2_put) (As := [.int x2, va_rf none]) mx_ml_X2_41 mx_y_X2_put rfl g7 (by decide) rfl (by decide) rfl (mx_dd dd_X2_copyApart 19 (29, .invokevirtual 41, 3) rfl) g5 (by decide) P (fun h2 P => ?_)
      refine mx_goto (pc := 32) 84 (mx_dd dd_X2_copyApart 20 (32, .goto 52, 3) rfl) rfl ?_
      refine mx_sel [2, 3, 4] rfl ?_
      exact P
theorem b_X2_copyApart_84 {d : Nat} {h : mxH} {Q : mxRes → mxH → Prop} (x0 : Nat) (x1 : Nat) (x2 : Int32)
    (P : mx_SX mY_X2_copyApart d 2 [(0, .ref x0), (1, .ref x1), (2, .int (x2 + (1 : Int32)))] [] h Q) : mx_SX mY_X2_copyApart d 84 [(0, .ref x0), (1, .ref x1), (2, .int x2)] [] h Q := by
  refine mx_iinc (pc := 84) 2 (mx_dd dd_X2_copyApart 46 (84, .iinc 2 1, 3) rfl) rfl (mx_kadd (by decide : Int32.ofInt 1 = (1 : Int32))) (by decide) (lv' := [(2, _), (0, _), (1, _)]) rfl ?_
  refine mx_goto (pc := 87) 2 (mx_dd dd_X2_copyApart 47 (87, .goto (-85), 3) rfl) rfl ?_
  refine mx_sel [1, 2, 0] rfl ?_
  exact P
theorem b_X2_firstSharer {d : Nat} {h : mxH} {Q : mxRes → mxH → Prop} (x0 : Nat) (x1 : Int32)
    (P : mx_SX mY_X2_firstSharer d 2 [(0, .ref x0), (1, .int x1), (2, .int (0 : Int32))] [] h Q) : mx_SM mY_X2_firstSharer d [.ref x0, .int x1] h Q := by
  refine mx_SM_of (by decide) (Nat.le_of_ble_eq_true rfl) ?_
  show mx_SX mY_X2_firstSharer d 0 [(0, .ref x0), (1, .int x1)] [] h Q
  refine mx_iconst (pc := 0) (v := (0 : Int32)) (mx_dd dd_X2_firstSharer 0 (0, .iconst 0, 1) rfl) (by decide) ?_
  refine mx_istore_n (pc := 1) (mx_dd dd_X2_firstSharer 1 (1, .istore_n 2, 1) rfl) rfl (by decide) (lv' := [(2, _), (0, _), (1, _)]) rfl ?_
  refine mx_sel [1, 2, 0] rfl ?_
  exact P
theorem b_X2_firstSharer_2 {d : Nat} {h : mxH} {Q : mxRes → mxH → Prop} (x0 : Nat) (x1 : Int32) (x2 : Int32)
    (P : ((x1 ≤ x2 → Q (.inl (some (.int x1))) h) ∧ (¬ x1 ≤ x2 → (((10 : Int32) ≤ x2 → Q (.inl (some (.int x1))) h) ∧ (¬ (10 : Int32) ≤ x2 → hpK h x0 = 2 ∧ ∃ b1 : Nat, hpR h x0 1 = some b1 ∧ hpK h b1 = 18 ∧ vp_in x2 (hpZ h b1) ∧ vp_in x1 (hpZ h b1) ∧ (∀ b, hpR h b1 x2.toNatClampNeg = some b → 128 ≤ b) ∧ (∀ b, hpR h b1 x1.toNatClampNeg = some b → 128 ≤ b) ∧ ((¬ (hpR h b1 x2.toNatClampNeg) = (hpR h b1 x1.toNatClampNeg) → mx_SX mY_X2_firstSharer d 2 [(0, .ref x0), (1, .int x1), (2, .int (x2 + (1 : Int32)))] [] h Q) ∧ ((hpR h b1 x2.toNatClampNeg) = (hpR h b1 x1.toNatClampNeg) → Q (.inl (some (.int x2))) h))))))) : mx_SX mY_X2_firstSharer d 2 [(0, .ref x0), (1, .int x1), (2, .int x2)] [] h Q := by
  refine mx_iload_n (pc := 2) 2 (mx_dd dd_X2_firstSharer 2 (2, .iload_n 2, 1) rfl) rfl rfl ?_
  refine mx_iload_n (pc := 3) 1 (mx_dd dd_X2_firstSharer 3 (3, .iload_n 1, 1) rfl) rfl rfl ?_
  refine mx_icmp_ge (pc := 4) 36 (mx_dd dd_X2_firstSharer 4 (4, .if_icmp .ge 32, 3) rfl) rfl (fun c4 => ?_) (fun c4 => ?_)
  · have P := P.1 c4
    refine mx_iload_n (pc := 36) 1 (mx_dd dd_X2_firstSharer 21 (36, .iload_n 1, 1) rfl) rfl rfl ?_
    exact mx_ireturn (pc := 37) (mx_dd dd_X2_firstSharer 22 (37, .ireturn, 1) rfl) rfl rfl P
  · have P := P.2 c4
    refine mx_iload_n (pc := 7) 2 (mx_dd dd_X2_firstSharer 5 (7, .iload_n 2, 1) rfl) rfl rfl ?_
    refine mx_bipush (pc := 8) (v := (10 : Int32)) (mx_dd dd_X2_firstSharer 6 (8, .bipush 10, 2) rfl) (by decide) ?_
    refine mx_icmp_ge (pc := 10) 36 (mx_dd dd_X2_firstSharer 7 (10, .if_icmp .ge 26, 3) rfl) rfl (fun c10 => ?_) (fun c10 => ?_)
    · have P := P.1 c10
      refine mx_iload_n (pc := 36) 1 (mx_dd dd_X2_firstSharer 21 (36, .iload_n 1, 1) rfl) rfl rfl ?_
      exact mx_ireturn (pc := 37) (mx_dd dd_X2_firstSharer 22 (37, .ireturn, 1) rfl) rfl rfl P
    · have P := P.2 c10
      refine mx_aload_n (pc := 13) 0 (mx_dd dd_X2_firstSharer 8 (13, .aload_n 0, 1) rfl) rfl rfl ?_
      obtain ⟨g1, P⟩ := P
      obtain ⟨b1, g2, P⟩ := P
      refine mx_getR (pc := 14) mx_fl_X2_17 g1 rfl g2 (mx_dd dd_X2_firstSharer 9 (14, .getfield 17, 3) rfl) ?_
      refine mx_iload_n (pc := 17) 2 (mx_dd dd_X2_firstSharer 10 (17, .iload_n 2, 1) rfl) rfl rfl ?_
      obtain ⟨g3, P⟩ := P
      obtain ⟨g4, P⟩ := P
      refine mx_aaldO (pc := 18) g3 (by decide) g4 (mx_dd dd_X2_firstSharer 11 (18, .aaload, 1) rfl) ?_
      refine mx_aload_n (pc := 19) 0 (mx_dd dd_X2_firstSharer 12 (19, .aload_n 0, 1) rfl) rfl rfl ?_
      refine mx_getR (pc := 20) mx_fl_X2_17 g1 rfl g2 (mx_dd dd_X2_firstSharer 13 (20, .getfield 17, 3) rfl) ?_
      refine mx_iload_n (pc := 23) 1 (mx_dd dd_X2_firstSharer 14 (23, .iload_n 1, 1) rfl) rfl rfl ?_
      obtain ⟨g5, P⟩ := P
      refine mx_aaldO (pc := 24) g3 (by decide) g5 (mx_dd dd_X2_firstSharer 15 (24, .aaload, 1) rfl) ?_
      obtain ⟨g6, P⟩ := P
      obtain ⟨g7, P⟩ := P
      refine mx_acmp_ne (pc := 25) 30 (mx_dd dd_X2_firstSharer 16 (25, .if_acmp .ne 5, 3) rfl) rfl g6 g7 (fun c25 => ?_) (fun c25 => ?_)
      · have P := P.1 c25
        refine mx_iinc (pc := 30) 2 (mx_dd dd_X2_firstSharer 19 (30, .iinc 2 1, 3) rfl) rfl (mx_kadd (by decide : Int32.ofInt 1 = (1 : Int32))) (by decide) (lv' := [(2, _), (0, _), (1, _)]) rfl ?_
        refine mx_goto (pc := 33) 2 (mx_dd dd_X2_firstSharer 20 (33, .goto (-31), 3) rfl) rfl ?_
        refine mx_sel [1, 2, 0] rfl ?_
        exact P
      · have P := P.2 c25
        refine mx_iload_n (pc := 28) 2 (mx_dd dd_X2_firstSharer 17 (28, .iload_n 2, 1) rfl) rfl rfl ?_
        exact mx_ireturn (pc := 29) (mx_dd dd_X2_firstSharer 18 (29, .ireturn, 1) rfl) rfl rfl P
theorem b_X3_init {d : Nat} {h : mxH} {Q : mxRes → mxH → Prop} (x0 : Nat)
    (P : 1 ≤ d ∧ ∀ (b1 : Nat) (h1 : mxH), b1 = hpN h → h1 = hnw h 13 256000 256000 → hpK h1 x0 = 3 ∧ ∀ h2 : mxH, h2 = hsR h1 x0 0 (some b1) → ∀ (b2 : Nat) (h3 : mxH), b2 = hpN h2 → h3 = hnw h2 14 3200 3200 → hpK h3 x0 = 3 ∧ ∀ h4 : mxH, h4 = hsR h3 x0 1 (some b2) → ∀ (b3 : Nat) (h5 : mxH), b3 = hpN h4 → h5 = hnw h4 16 3200 3200 → hpK h5 x0 = 3 ∧ ∀ h6 : mxH, h6 = hsR h5 x0 2 (some b3) → ∀ h7 : mxH, h7 = hsI h6 x0 3 (1 : Int32) → Q (.inl none) h7) : mx_SM mY_X3_init d [.ref x0] h Q := by
  refine mx_SM_of (by decide) (Nat.le_of_ble_eq_true rfl) ?_
  show mx_SX mY_X3_init d 0 [(0, .ref x0)] [] h Q
  refine mx_aload_n (pc := 0) 0 (mx_dd dd_X3_init 0 (0, .aload_n 0, 1) rfl) rfl rfl ?_
  obtain ⟨g1, P⟩ := P
  refine mx_objInit (pc := 1) mx_oi_X3_3 mx_oii mx_oic (by decide) (mx_dd dd_X3_init 1 (1, .invokespecial 3, 3) rfl) g1 ?_
  refine mx_aload_n (pc := 4) 0 (mx_dd dd_X3_init 2 (4, .aload_n 0, 1) rfl) rfl rfl ?_
  refine mx_ldc (pc := 5) mx_ci_X3_11 (mx_dd dd_X3_init 3 (5, .ldc 11, 2) rfl) ?_
  refine mx_newa (pc := 7) (N := 256000) (kd := 13) (by decide) rfl mx_ac_13 (by decide) (by decide) (by decide) (mx_dd dd_X3_init 4 (7, .newarray .byte, 2) rfl) ?_
  have P := P _ _ rfl rfl
  obtain ⟨g2, P⟩ := P
  refine mx_putR (pc := 9) mx_fl_X3_12 g2 rfl (.inr ⟨rfl, rfl, rfl⟩) (mx_dd dd_X3_init 5 (9, .putfield 12, 3) rfl) ?_
  have P := P _ rfl
  refine mx_aload_n (pc := 12) 0 (mx_dd dd_X3_init 6 (12, .aload_n 0, 1) rfl) rfl rfl ?_
  refine mx_sipush (pc := 13) (v := (3200 : Int32)) (mx_dd dd_X3_init 7 (13, .sipush 3200, 3) rfl) (by decide) ?_
  refine mx_newa (pc := 16) (N := 3200) (kd := 14) (by decide) rfl mx_ac_14 (by decide) (by decide) (by decide) (mx_dd dd_X3_init 8 (16, .newarray .int, 2) rfl) ?_
  have P := P _ _ rfl rfl
  obtain ⟨g3, P⟩ := P
  refine mx_putR (pc := 18) mx_fl_X3_16 g3 rfl (.inr ⟨rfl, rfl, rfl⟩) (mx_dd dd_X3_init 9 (18, .putfield 16, 3) rfl) ?_
  have P := P _ rfl
  refine mx_aload_n (pc := 21) 0 (mx_dd dd_X3_init 10 (21, .aload_n 0, 1) rfl) rfl rfl ?_
  refine mx_sipush (pc := 22) (v := (3200 : Int32)) (mx_dd dd_X3_init 11 (22, .sipush 3200, 3) rfl) (by decide) ?_
  refine mx_newa (pc := 25) (N := 3200) (kd := 16) (by decide) rfl mx_ac_16 (by decide) (by decide) (by decide) (mx_dd dd_X3_init 12 (25, .newarray .boolean, 2) rfl) ?_
  have P := P _ _ rfl rfl
  obtain ⟨g4, P⟩ := P
  refine mx_putR (pc := 27) mx_fl_X3_20 g4 rfl (.inr ⟨rfl, rfl, rfl⟩) (mx_dd dd_X3_init 13 (27, .putfield 20, 3) rfl) ?_
  have P := P _ rfl
  refine mx_aload_n (pc := 30) 0 (mx_dd dd_X3_init 14 (30, .aload_n 0, 1) rfl) rfl rfl ?_
  refine mx_iconst (pc := 31) (v := (1 : Int32)) (mx_dd dd_X3_init 15 (31, .iconst 1, 1) rfl) (by decide) ?_
  refine mx_putI (pc := 32) mx_fl_X3_24 g4 rfl (.inl rfl) rfl rfl (mx_dd dd_X3_init 16 (32, .putfield 24, 3) rfl) ?_
  have P := P _ rfl
  exact mx_return (pc := 35) (mx_dd dd_X3_init 17 (35, .return_, 1) rfl) rfl P
theorem b_X3_forgetMarks {d : Nat} {h : mxH} {Q : mxRes → mxH → Prop} (x0 : Nat)
    (P : mx_SX mY_X3_forgetMarks d 2 [(0, .ref x0), (1, .int (0 : Int32))] [] h Q) : mx_SM mY_X3_forgetMarks d [.ref x0] h Q := by
  refine mx_SM_of (by decide) (Nat.le_of_ble_eq_true rfl) ?_
  show mx_SX mY_X3_forgetMarks d 0 [(0, .ref x0)] [] h Q
  refine mx_iconst (pc := 0) (v := (0 : Int32)) (mx_dd dd_X3_forgetMarks 0 (0, .iconst 0, 1) rfl) (by decide) ?_
  refine mx_istore_n (pc := 1) (mx_dd dd_X3_forgetMarks 1 (1, .istore_n 1, 1) rfl) rfl (by decide) (lv' := [(1, _), (0, _)]) rfl ?_
  refine mx_sel [1, 0] rfl ?_
  exact P
theorem b_X3_forgetMarks_2 {d : Nat} {h : mxH} {Q : mxRes → mxH → Prop} (x0 : Nat) (x1 : Int32)
    (P : hpK h x0 = 3 ∧ (((hpI h x0 4) ≤ x1 → ∀ h1 : mxH, h1 = hsI h x0 3 (1 : Int32) → Q (.inl none) h1) ∧ (¬ (hpI h x0 4) ≤ x1 → (((3200 : Int32) ≤ x1 → ∀ h2 : mxH, h2 = hsI h x0 3 (1 : Int32) → Q (.inl none) h2) ∧ (¬ (3200 : Int32) ≤ x1 → ∃ b1 : Nat, hpR h x0 2 = some b1 ∧ hpK h b1 = 16 ∧ vp_in x1 (hpZ h b1) ∧ ∀ h3 : mxH, h3 = hsI h b1 x1.toNatClampNeg ((0 : Int32) &&& 1) → mx_SX mY_X3_forgetMarks d 2 [(0, .ref x0), (1, .int (x1 + (1 : Int32)))] [] h3 Q))))) : mx_SX mY_X3_forgetMarks d 2 [(0, .ref x0), (1, .int x1)] [] h Q := by
  refine mx_iload_n (pc := 2) 1 (mx_dd dd_X3_forgetMarks 2 (2, .iload_n 1, 1) rfl) rfl rfl ?_
  refine mx_aload_n (pc := 3) 0 (mx_dd dd_X3_forgetMarks 3 (3, .aload_n 0, 1) rfl) rfl rfl ?_
  obtain ⟨g1, P⟩ := P
  refine mx_getI (pc := 4) mx_fl_X3_28 g1 rfl (mx_dd dd_X3_forgetMarks 4 (4, .getfield 28, 3) rfl) ?_
  refine mx_icmp_ge (pc := 7) 30 (mx_dd dd_X3_forgetMarks 5 (7, .if_icmp .ge 23, 3) rfl) rfl (fun c7 => ?_) (fun c7 => ?_)
  · have P := P.1 c7
    refine mx_aload_n (pc := 30) 0 (mx_dd dd_X3_forgetMarks 16 (30, .aload_n 0, 1) rfl) rfl rfl ?_
    refine mx_iconst (pc := 31) (v := (1 : Int32)) (mx_dd dd_X3_forgetMarks 17 (31, .iconst 1, 1) rfl) (by decide) ?_
    refine mx_putI (pc := 32) mx_fl_X3_24 g1 rfl (.inl rfl) rfl rfl (mx_dd dd_X3_forgetMarks 18 (32, .putfield 24, 3) rfl) ?_
    have P := P _ rfl
    exact mx_return (pc := 35) (mx_dd dd_X3_forgetMarks 19 (35, .return_, 1) rfl) rfl P
  · have P := P.2 c7
    refine mx_iload_n (pc := 10) 1 (mx_dd dd_X3_forgetMarks 6 (10, .iload_n 1, 1) rfl) rfl rfl ?_
    refine mx_sipush (pc := 11) (v := (3200 : Int32)) (mx_dd dd_X3_forgetMarks 7 (11, .sipush 3200, 3) rfl) (by decide) ?_
    refine mx_icmp_ge (pc := 14) 30 (mx_dd dd_X3_forgetMarks 8 (14, .if_icmp .ge 16, 3) rfl) rfl (fun c14 => ?_) (fun c14 => ?_)
    · have P := P.1 c14
      refine mx_aload_n (pc := 30) 0 (mx_dd dd_X3_forgetMarks 16 (30, .aload_n 0, 1) rfl) rfl rfl ?_
      refine mx_iconst (pc := 31) (v := (1 : Int32)) (mx_dd dd_X3_forgetMarks 17 (31, .iconst 1, 1) rfl) (by decide) ?_
      refine mx_putI (pc := 32) mx_fl_X3_24 g1 rfl (.inl rfl) rfl rfl (mx_dd dd_X3_forgetMarks 18 (32, .putfield 24, 3) rfl) ?_
      have P := P _ rfl
      exact mx_return (pc := 35) (mx_dd dd_X3_forgetMarks 19 (35, .return_, 1) rfl) rfl P
    · have P := P.2 c14
      refine mx_aload_n (pc := 17) 0 (mx_dd dd_X3_forgetMarks 9 (17, .aload_n 0, 1) rfl) rfl rfl ?_
      obtain ⟨b1, g2, P⟩ := P
      refine mx_getR (pc := 18) mx_fl_X3_20 g1 rfl g2 (mx_dd dd_X3_forgetMarks 10 (18, .getfield 20, 3) rfl) ?_
      refine mx_iload_n (pc := 21) 1 (mx_dd dd_X3_forgetMarks 11 (21, .iload_n 1, 1) rfl) rfl rfl ?_
      refine mx_iconst (pc := 22) (v := (0 : Int32)) (mx_dd dd_X3_forgetMarks 12 (22, .iconst 0, 1) rfl) (by decide) ?_
      obtain ⟨g3, P⟩ := P
      obtain ⟨g4, P⟩ := P
      refine mx_zast (pc := 23) g3 g4 (mx_dd dd_X3_forgetMarks 13 (23, .bastore, 1) rfl) ?_
      have P := P _ rfl
      refine mx_iinc (pc := 24) 1 (mx_dd dd_X3_forgetMarks 14 (24, .iinc 1 1, 3) rfl) rfl (mx_kadd (by decide : Int32.ofInt 1 = (1 : Int32))) (by decide) (lv' := [(1, _), (0, _)]) rfl ?_
      refine mx_goto (pc := 27) 2 (mx_dd dd_X3_forgetMarks 15 (27, .goto (-25), 3) rfl) rfl ?_
      refine mx_sel [1, 0] rfl ?_
      exact P
theorem b_X3_mark {d : Nat} {h : mxH} {Q : mxRes → mxH → Prop} (x0 : Nat) (x1 : Int32)
    (P : ((x1 < 0 → Q (.inl none) h) ∧ (¬ x1 < 0 → (((3200 : Int32) ≤ x1 → Q (.inl none) h) ∧ (¬ (3200 : Int32) ≤ x1 → hpK h x0 = 3 ∧ ∃ b1 : Nat, hpR h x0 2 = some b1 ∧ hpK h b1 = 16 ∧ vp_in x1 (hpZ h b1) ∧ ∀ h1 : mxH, h1 = hsI h b1 x1.toNatClampNeg ((1 : Int32) &&& 1) → Q (.inl none) h1))))) : mx_SM mY_X3_mark d [.ref x0, .int x1] h Q := by
  refine mx_SM_of (by decide) (Nat.le_of_ble_eq_true rfl) ?_
  show mx_SX mY_X3_mark d 0 [(0, .ref x0), (1, .int x1)] [] h Q
  refine mx_iload_n (pc := 0) 1 (mx_dd dd_X3_mark 0 (0, .iload_n 1, 1) rfl) rfl rfl ?_
  refine mx_if_lt (pc := 1) 18 (mx_dd dd_X3_mark 1 (1, .ifCond .lt 17, 3) rfl) rfl (fun c1 => ?_) (fun c1 => ?_)
  · have P := P.1 c1
    exact mx_return (pc := 18) (mx_dd dd_X3_mark 10 (18, .return_, 1) rfl) rfl P
  · have P := P.2 c1
    refine mx_iload_n (pc := 4) 1 (mx_dd dd_X3_mark 2 (4, .iload_n 1, 1) rfl) rfl rfl ?_
    refine mx_sipush (pc := 5) (v := (3200 : Int32)) (mx_dd dd_X3_mark 3 (5, .sipush 3200, 3) rfl) (by decide) ?_
    refine mx_icmp_ge (pc := 8) 18 (mx_dd dd_X3_mark 4 (8, .if_icmp .ge 10, 3) rfl) rfl (fun c8 => ?_) (fun c8 => ?_)
    · have P := P.1 c8
      exact mx_return (pc := 18) (mx_dd dd_X3_mark 10 (18, .return_, 1) rfl) rfl P
    · have P := P.2 c8
      refine mx_aload_n (pc := 11) 0 (mx_dd dd_X3_mark 5 (11, .aload_n 0, 1) rfl) rfl rfl ?_
      obtain ⟨g1, P⟩ := P
      obtain ⟨b1, g2, P⟩ := P
      refine mx_getR (pc := 12) mx_fl_X3_20 g1 rfl g2 (mx_dd dd_X3_mark 6 (12, .getfield 20, 3) rfl) ?_
      refine mx_iload_n (pc := 15) 1 (mx_dd dd_X3_mark 7 (15, .iload_n 1, 1) rfl) rfl rfl ?_
      refine mx_iconst (pc := 16) (v := (1 : Int32)) (mx_dd dd_X3_mark 8 (16, .iconst 1, 1) rfl) (by decide) ?_
      obtain ⟨g3, P⟩ := P
      obtain ⟨g4, P⟩ := P
      refine mx_zast (pc := 17) g3 g4 (mx_dd dd_X3_mark 9 (17, .bastore, 1) rfl) ?_
      have P := P _ rfl
      exact mx_return (pc := 18) (mx_dd dd_X3_mark 10 (18, .return_, 1) rfl) rfl P
theorem b_X3_markAll {d : Nat} {h : mxH} {Q : mxRes → mxH → Prop} (x0 : Nat) (x1 : Nat) (x2 : Int32) (x3 : Int32)
    (P : mx_SX mY_X3_markAll d 3 [(0, .ref x0), (1, .ref x1), (2, .int x2), (3, .int x3), (4, .int x2)] [] h Q) : mx_SM mY_X3_markAll d [.ref x0, .ref x1, .int x2, .int x3] h Q := by
  refine mx_SM_of (by decide) (Nat.le_of_ble_eq_true rfl) ?_
  show mx_SX mY_X3_markAll d 0 [(0, .ref x0), (1, .ref x1), (2, .int x2), (3, .int x3)] [] h Q
  refine mx_iload_n (pc := 0) 2 (mx_dd dd_X3_markAll 0 (0, .iload_n 2, 1) rfl) rfl rfl ?_
  refine mx_istore (pc := 1) (mx_dd dd_X3_markAll 1 (1, .istore 4, 2) rfl) (by decide) (lv' := [(4, _), (0, _), (1, _), (2, _), (3, _)]) rfl ?_
  refine mx_sel [1, 2, 3, 4, 0] rfl ?_
  exact P
theorem b_X3_markAll_3 {d : Nat} {h : mxH} {Q : mxRes → mxH → Prop} (x0 : Nat) (x1 : Nat) (x2 : Int32) (x3 : Int32) (x4 : Int32)
    (P : (((x2 + x3) ≤ x4 → Q (.inl none) h) ∧ (¬ (x2 + x3) ≤ x4 → ((x4 < 0 → Q (.inl none) h) ∧ (¬ x4 < 0 → hpK h x1 = 14 ∧ (((nI (hpZ h x1)) ≤ x4 → Q (.inl none) h) ∧ (¬ (nI (hpZ h x1)) ≤ x4 → vp_in x4 (hpZ h x1) ∧ 1 ≤ d ∧ hpK h x0 = 3 ∧ mx_SM mY_X3_mark (d - 1) [.ref x0, .int (hpI h x1 x4.toNatClampNeg)] h (mx_KV (fun h1 => mx_SX mY_X3_markAll d 3 [(0, .ref x0), (1, .ref x1), (2, .int x2), (3, .int x3), (4, .int (x4 + (1 : Int32)))] [] h1 Q) (mx_XX mY_X3_markAll Q))))))))) : mx_SX mY_X3_markAll d 3 [(0, .ref x0), (1, .ref x1), (2, .int x2), (3, .int x3), (4, .int x4)] [] h Q := by
  refine mx_iload (pc := 3) 4 (mx_dd dd_X3_markAll 2 (3, .iload 4, 2) rfl) rfl ?_
  refine mx_iload_n (pc := 5) 2 (mx_dd dd_X3_markAll 3 (5, .iload_n 2, 1) rfl) rfl rfl ?_
  refine mx_iload_n (pc := 6) 3 (mx_dd dd_X3_markAll 4 (6, .iload_n 3, 1) rfl) rfl rfl ?_
  refine mx_iadd (pc := 7) (mx_dd dd_X3_markAll 5 (7, .iadd, 1) rfl) ?_
  refine mx_icmp_ge (pc := 8) 37 (mx_dd dd_X3_markAll 6 (8, .if_icmp .ge 29, 3) rfl) rfl (fun c8 => ?_) (fun c8 => ?_)
  · have P := P.1 c8
    exact mx_return (pc := 37) (mx_dd dd_X3_markAll 20 (37, .return_, 1) rfl) rfl P
  · have P := P.2 c8
    refine mx_iload (pc := 11) 4 (mx_dd dd_X3_markAll 7 (11, .iload 4, 2) rfl) rfl ?_
    refine mx_if_lt (pc := 13) 37 (mx_dd dd_X3_markAll 8 (13, .ifCond .lt 24, 3) rfl) rfl (fun c13 => ?_) (fun c13 => ?_)
    · have P := P.1 c13
      exact mx_return (pc := 37) (mx_dd dd_X3_markAll 20 (37, .return_, 1) rfl) rfl P
    · have P := P.2 c13
      refine mx_iload (pc := 16) 4 (mx_dd dd_X3_markAll 9 (16, .iload 4, 2) rfl) rfl ?_
      refine mx_aload_n (pc := 18) 1 (mx_dd dd_X3_markAll 10 (18, .aload_n 1, 1) rfl) rfl rfl ?_
      obtain ⟨g1, P⟩ := P
      refine mx_alen (pc := 19) g1 (by decide) (mx_dd dd_X3_markAll 11 (19, .arraylength, 1) rfl) ?_
      refine mx_icmp_ge (pc := 20) 37 (mx_dd dd_X3_markAll 12 (20, .if_icmp .ge 17, 3) rfl) rfl (fun c20 => ?_) (fun c20 => ?_)
      · have P := P.1 c20
        exact mx_return (pc := 37) (mx_dd dd_X3_markAll 20 (37, .return_, 1) rfl) rfl P
      · have P := P.2 c20
        refine mx_aload_n (pc := 23) 0 (mx_dd dd_X3_markAll 13 (23, .aload_n 0, 1) rfl) rfl rfl ?_
        refine mx_aload_n (pc := 24) 1 (mx_dd dd_X3_markAll 14 (24, .aload_n 1, 1) rfl) rfl rfl ?_
        refine mx_iload (pc := 25) 4 (mx_dd dd_X3_markAll 15 (25, .iload 4, 2) rfl) rfl ?_
        obtain ⟨g2, P⟩ := P
        refine mx_iald (pc := 27) g1 g2 (mx_dd dd_X3_markAll 16 (27, .iaload, 1) rfl) ?_
        obtain ⟨g3, P⟩ := P
        obtain ⟨g4, P⟩ := P
        refine mx_cVV (pc := 28) (Y := mY_X3_mark) (As := [.int (hpI h x1 x4.toNatClampNeg)]) mx_ml_X3_31 mx_y_X3_mark rfl g4 (by decide) rfl (by decide) rfl (mx_dd dd_X3_markAll 17 (28, .invokevirtual 31, 3) rfl) g3 (by decide) P (fun h1 P => ?_)
        refine mx_iinc (pc := 31) 4 (mx_dd dd_X3_markAll 18 (31, .iinc 4 1, 3) rfl) rfl (mx_kadd (by decide : Int32.ofInt 1 = (1 : Int32))) (by decide) (lv' := [(4, _), (0, _), (1, _), (2, _), (3, _)]) rfl ?_
        refine mx_goto (pc := 34) 3 (mx_dd dd_X3_markAll 19 (34, .goto (-31), 3) rfl) rfl ?_
        refine mx_sel [1, 2, 3, 4, 0] rfl ?_
        exact P
theorem b_X3_make {d : Nat} {h : mxH} {Q : mxRes → mxH → Prop} (x0 : Nat) (x1 : Nat) (x2 : Int32) (x3 : Int32)
    (P : (((80 : Int32) ≤ x3 → (((80 : Int32) ≤ 0 → Q (.inl (some (.int (0 : Int32)))) h) ∧ (¬ (80 : Int32) ≤ 0 → ((x2 < 0 → Q (.inl (some (.int (0 : Int32)))) h) ∧ (¬ x2 < 0 → hpK h x1 = 13 ∧ (((nI (hpZ h x1)) < (80 : Int32) → Q (.inl (some (.int (0 : Int32)))) h) ∧ (¬ (nI (hpZ h x1)) < (80 : Int32) → ((x2 ≤ ((nI (hpZ h x1)) - (80 : Int32)) → mx_SX mY_X3_make d 41 [(0, .ref x0), (1, .ref x1), (2, .int x2), (4, .int (80 : Int32))] [] h Q) ∧ (¬ x2 ≤ ((nI (hpZ h x1)) - (80 : Int32)) → Q (.inl (some (.int (0 : Int32)))) h))))))))) ∧ (¬ (80 : Int32) ≤ x3 → ((x3 ≤ 0 → Q (.inl (some (.int (0 : Int32)))) h) ∧ (¬ x3 ≤ 0 → ((x2 < 0 → Q (.inl (some (.int (0 : Int32)))) h) ∧ (¬ x2 < 0 → hpK h x1 = 13 ∧ (((nI (hpZ h x1)) < x3 → Q (.inl (some (.int (0 : Int32)))) h) ∧ (¬ (nI (hpZ h x1)) < x3 → ((x2 ≤ ((nI (hpZ h x1)) - x3) → mx_SX mY_X3_make d 41 [(0, .ref x0), (1, .ref x1), (2, .int x2), (4, .int x3)] [] h Q) ∧ (¬ x2 ≤ ((nI (hpZ h x1)) - x3) → Q (.inl (some (.int (0 : Int32)))) h))))))))))) : mx_SM mY_X3_make d [.ref x0, .ref x1, .int x2, .int x3] h Q := by
  refine mx_SM_of (by decide) (Nat.le_of_ble_eq_true rfl) ?_
  show mx_SX mY_X3_make d 0 [(0, .ref x0), (1, .ref x1), (2, .int x2), (3, .int x3)] [] h Q
  refine mx_iload_n (pc := 0) 3 (mx_dd dd_X3_make_0 0 (0, .iload_n 3, 1) rfl) rfl rfl ?_
  refine mx_bipush (pc := 1) (v := (80 : Int32)) (mx_dd dd_X3_make_0 1 (1, .bipush 80, 2) rfl) (by decide) ?_
  refine mx_icmp_ge (pc := 3) 10 (mx_dd dd_X3_make_0 2 (3, .if_icmp .ge 7, 3) rfl) rfl (fun c3 => ?_) (fun c3 => ?_)
  · have P := P.1 c3
    refine mx_bipush (pc := 10) (v := (80 : Int32)) (mx_dd dd_X3_make_0 5 (10, .bipush 80, 2) rfl) (by decide) ?_
    refine mx_istore (pc := 12) (mx_dd dd_X3_make_0 6 (12, .istore 4, 2) rfl) (by decide) (lv' := [(4, _), (0, _), (1, _), (2, _), (3, _)]) rfl ?_
    refine mx_iload (pc := 14) 0 (mx_dd dd_X3_make_0 7 (14, .iload 4, 2) rfl) rfl ?_
    refine mx_if_le (pc := 16) 39 (mx_dd dd_X3_make_0 8 (16, .ifCond .le 23, 3) rfl) rfl (fun c16 => ?_) (fun c16 => ?_)
    · have P := P.1 c16
      refine mx_iconst (pc := 39) (v := (0 : Int32)) (mx_dd dd_X3_make_0 21 (39, .iconst 0, 1) rfl) (by decide) ?_
      exact mx_ireturn (pc := 40) (mx_dd dd_X3_make_0 22 (40, .ireturn, 1) rfl) rfl rfl P
    · have P := P.2 c16
      refine mx_iload_n (pc := 19) 3 (mx_dd dd_X3_make_0 9 (19, .iload_n 2, 1) rfl) rfl rfl ?_
      refine mx_if_lt (pc := 20) 39 (mx_dd dd_X3_make_0 10 (20, .ifCond .lt 19, 3) rfl) rfl (fun c20 => ?_) (fun c20 => ?_)
      · have P := P.1 c20
        refine mx_iconst (pc := 39) (v := (0 : Int32)) (mx_dd dd_X3_make_0 21 (39, .iconst 0, 1) rfl) (by decide) ?_
        exact mx_ireturn (pc := 40) (mx_dd dd_X3_make_0 22 (40, .ireturn, 1) rfl) rfl rfl P
      · have P := P.2 c20
        refine mx_iload (pc := 23) 0 (mx_dd dd_X3_make_0 11 (23, .iload 4, 2) rfl) rfl ?_
        refine mx_aload_n (pc := 25) 2 (mx_dd dd_X3_make_0 12 (25, .aload_n 1, 1) rfl) rfl rfl ?_
        obtain ⟨g1, P⟩ := P
        refine mx_alen (pc := 26) g1 (by decide) (mx_dd dd_X3_make_0 13 (26, .arraylength, 1) rfl) ?_
        refine mx_icmp_gt (pc := 27) 39 (mx_dd dd_X3_make_0 14 (27, .if_icmp .gt 12, 3) rfl) rfl (fun c27 => ?_) (fun c27 => ?_)
        · have P := P.1 c27
          refine mx_iconst (pc := 39) (v := (0 : Int32)) (mx_dd dd_X3_make_0 21 (39, .iconst 0, 1) rfl) (by decide) ?_
          exact mx_ireturn (pc := 40) (mx_dd dd_X3_make_0 22 (40, .ireturn, 1) rfl) rfl rfl P
        · have P := P.2 c27
          refine mx_iload_n (pc := 30) 3 (mx_dd dd_X3_make_0 15 (30, .iload_n 2, 1) rfl) rfl rfl ?_
          refine mx_aload_n (pc := 31) 2 (mx_dd dd_X3_make_0 16 (31, .aload_n 1, 1) rfl) rfl rfl ?_
          refine mx_alen (pc := 32) g1 (by decide) (mx_dd dd_X3_make_0 17 (32, .arraylength, 1) rfl) ?_
          refine mx_iload (pc := 33) 0 (mx_dd dd_X3_make_0 18 (33, .iload 4, 2) rfl) rfl ?_
          refine mx_isub (pc := 35) (mx_dd dd_X3_make_0 19 (35, .isub, 1) rfl) ?_
          refine mx_icmp_le (pc := 36) 41 (mx_dd dd_X3_make_0 20 (36, .if_icmp .le 5, 3) rfl) rfl (fun c36 => ?_) (fun c36 => ?_)
          · have P := P.1 c36
            refine mx_sel [1, 2, 3, 0] rfl ?_
            exact P
          · have P := P.2 c36
            refine mx_iconst (pc := 39) (v := (0 : Int32)) (mx_dd dd_X3_make_0 21 (39, .iconst 0, 1) rfl) (by decide) ?_
            exact mx_ireturn (pc := 40) (mx_dd dd_X3_make_0 22 (40, .ireturn, 1) rfl) rfl rfl P
  · have P := P.2 c3
    refine mx_iload_n (pc := 6) 3 (mx_dd dd_X3_make_0 3 (6, .iload_n 3, 1) rfl) rfl rfl ?_
    refine mx_goto (pc := 7) 12 (mx_dd dd_X3_make_0 4 (7, .goto 5, 3) rfl) rfl ?_
    refine mx_istore (pc := 12) (mx_dd dd_X3_make_0 6 (12, .istore 4, 2) rfl) (by decide) (lv' := [(4, _), (0, _), (1, _), (2, _), (3, _)]) rfl ?_
    refine mx_iload (pc := 14) 0 (mx_dd dd_X3_make_0 7 (14, .iload 4, 2) rfl) rfl ?_
    refine mx_if_le (pc := 16) 39 (mx_dd dd_X3_make_0 8 (16, .ifCond .le 23, 3) rfl) rfl (fun c16 => ?_) (fun c16 => ?_)
    · have P := P.1 c16
      refine mx_iconst (pc := 39) (v := (0 : Int32)) (mx_dd dd_X3_make_0 21 (39, .iconst 0, 1) rfl) (by decide) ?_
      exact mx_ireturn (pc := 40) (mx_dd dd_X3_make_0 22 (40, .ireturn, 1) rfl) rfl rfl P
    · have P := P.2 c16
      refine mx_iload_n (pc := 19) 3 (mx_dd dd_X3_make_0 9 (19, .iload_n 2, 1) rfl) rfl rfl ?_
      refine mx_if_lt (pc := 20) 39 (mx_dd dd_X3_make_0 10 (20, .ifCond .lt 19, 3) rfl) rfl (fun c20 => ?_) (fun c20 => ?_)
      · have P := P.1 c20
        refine mx_iconst (pc := 39) (v := (0 : Int32)) (mx_dd dd_X3_make_0 21 (39, .iconst 0, 1) rfl) (by decide) ?_
        exact mx_ireturn (pc := 40) (mx_dd dd_X3_make_0 22 (40, .ireturn, 1) rfl) rfl rfl P
      · have P := P.2 c20
        refine mx_iload (pc := 23) 0 (mx_dd dd_X3_make_0 11 (23, .iload 4, 2) rfl) rfl ?_
        refine mx_aload_n (pc := 25) 2 (mx_dd dd_X3_make_0 12 (25, .aload_n 1, 1) rfl) rfl rfl ?_
        obtain ⟨g2, P⟩ := P
        refine mx_alen (pc := 26) g2 (by decide) (mx_dd dd_X3_make_0 13 (26, .arraylength, 1) rfl) ?_
        refine mx_icmp_gt (pc := 27) 39 (mx_dd dd_X3_make_0 14 (27, .if_icmp .gt 12, 3) rfl) rfl (fun c27 => ?_) (fun c27 => ?_)
        · have P := P.1 c27
          refine mx_iconst (pc := 39) (v := (0 : Int32)) (mx_dd dd_X3_make_0 21 (39, .iconst 0, 1) rfl) (by decide) ?_
          exact mx_ireturn (pc := 40) (mx_dd dd_X3_make_0 22 (40, .ireturn, 1) rfl) rfl rfl P
        · have P := P.2 c27
          refine mx_iload_n (pc := 30) 3 (mx_dd dd_X3_make_0 15 (30, .iload_n 2, 1) rfl) rfl rfl ?_
          refine mx_aload_n (pc := 31) 2 (mx_dd dd_X3_make_0 16 (31, .aload_n 1, 1) rfl) rfl rfl ?_
          refine mx_alen (pc := 32) g2 (by decide) (mx_dd dd_X3_make_0 17 (32, .arraylength, 1) rfl) ?_
          refine mx_iload (pc := 33) 0 (mx_dd dd_X3_make_0 18 (33, .iload 4, 2) rfl) rfl ?_
          refine mx_isub (pc := 35) (mx_dd dd_X3_make_0 19 (35, .isub, 1) rfl) ?_
          refine mx_icmp_le (pc := 36) 41 (mx_dd dd_X3_make_0 20 (36, .if_icmp .le 5, 3) rfl) rfl (fun c36 => ?_) (fun c36 => ?_)
          · have P := P.1 c36
            refine mx_sel [1, 2, 3, 0] rfl ?_
            exact P
          · have P := P.2 c36
            refine mx_iconst (pc := 39) (v := (0 : Int32)) (mx_dd dd_X3_make_0 21 (39, .iconst 0, 1) rfl) (by decide) ?_
            exact mx_ireturn (pc := 40) (mx_dd dd_X3_make_0 22 (40, .ireturn, 1) rfl) rfl rfl P
theorem b_X3_make_41 {d : Nat} {h : mxH} {Q : mxRes → mxH → Prop} (x0 : Nat) (x1 : Nat) (x2 : Int32) (x4 : Int32)
    (P : hpK h x0 = 3 ∧ (((3200 : Int32) ≤ (hpI h x0 3) → mx_SX mY_X3_make d 76 [(0, .ref x0), (1, .ref x1), (2, .int x2), (4, .int x4)] [] h Q) ∧ (¬ (3200 : Int32) ≤ (hpI h x0 3) → ∃ b1 : Nat, hpR h x0 2 = some b1 ∧ hpK h b1 = 16 ∧ vp_in (hpI h x0 3) (hpZ h b1) ∧ (((hpI h b1 (hpI h x0 3).toNatClampNeg) = 0 → mx_SX mY_X3_make d 76 [(0, .ref x0), (1, .ref x1), (2, .int x2), (4, .int x4)] [] h Q) ∧ (¬ (hpI h b1 (hpI h x0 3).toNatClampNeg) = 0 → ∀ h1 : mxH, h1 = hsI h x0 3 ((hpI h x0 3) + (1 : Int32)) → mx_SX mY_X3_make d 41 [(0, .ref x0), (1, .ref x1), (2, .int x2), (4, .int x4)] [] h1 Q))))) : mx_SX mY_X3_make d 41 [(0, .ref x0), (1, .ref x1), (2, .int x2), (4, .int x4)] [] h Q := by
  refine mx_aload_n (pc := 41) 0 (mx_dd dd_X3_make_0 23 (41, .aload_n 0, 1) rfl) rfl rfl ?_
  obtain ⟨g1, P⟩ := P
  refine mx_getI (pc := 42) mx_fl_X3_24 g1 rfl (mx_dd dd_X3_make_0 24 (42, .getfield 24, 3) rfl) ?_
  refine mx_sipush (pc := 45) (v := (3200 : Int32)) (mx_dd dd_X3_make_0 25 (45, .sipush 3200, 3) rfl) (by decide) ?_
  refine mx_icmp_ge (pc := 48) 76 (mx_dd dd_X3_make_0 26 (48, .if_icmp .ge 28, 3) rfl) rfl (fun c48 => ?_) (fun c48 => ?_)
  · have P := P.1 c48
    exact P
  · have P := P.2 c48
    refine mx_aload_n (pc := 51) 0 (mx_dd dd_X3_make_0 27 (51, .aload_n 0, 1) rfl) rfl rfl ?_
    obtain ⟨b1, g2, P⟩ := P
    refine mx_getR (pc := 52) mx_fl_X3_20 g1 rfl g2 (mx_dd dd_X3_make_0 28 (52, .getfield 20, 3) rfl) ?_
    refine mx_aload_n (pc := 55) 0 (mx_dd dd_X3_make_0 29 (55, .aload_n 0, 1) rfl) rfl rfl ?_
    refine mx_getI (pc := 56) mx_fl_X3_24 g1 rfl (mx_dd dd_X3_make_0 30 (56, .getfield 24, 3) rfl) ?_
    obtain ⟨g3, P⟩ := P
    obtain ⟨g4, P⟩ := P
    refine mx_zald (pc := 59) g3 g4 (mx_dd dd_X3_make_0 31 (59, .baload, 1) rfl) ?_
    refine mx_if_eq (pc := 60) 76 (mx_dd dd_X3_make_0 32 (60, .ifCond .eq 16, 3) rfl) rfl (fun c60 => ?_) (fun c60 => ?_)
    · have P := P.1 c60
      exact P
    · have P := P.2 c60
      refine mx_aload_n (pc := 63) 0 (mx_dd dd_X3_make_0 33 (63, .aload_n 0, 1) rfl) rfl rfl ?_
      refine mx_dup (pc := 64) (mx_dd dd_X3_make_0 34 (64, .dup, 1) rfl) rfl ?_
      refine mx_getI (pc := 65) mx_fl_X3_24 g1 rfl (mx_dd dd_X3_make_0 35 (65, .getfield 24, 3) rfl) ?_
      refine mx_iconst (pc := 68) (v := (1 : Int32)) (mx_dd dd_X3_make_0 36 (68, .iconst 1, 1) rfl) (by decide) ?_
      refine mx_iadd (pc := 69) (mx_dd dd_X3_make_0 37 (69, .iadd, 1) rfl) ?_
      refine mx_putI (pc := 70) mx_fl_X3_24 g1 rfl (.inl rfl) rfl rfl (mx_dd dd_X3_make_0 38 (70, .putfield 24, 3) rfl) ?_
      have P := P _ rfl
      refine mx_goto (pc := 73) 41 (mx_dd dd_X3_make_0 39 (73, .goto (-32), 3) rfl) rfl ?_
      exact P
theorem b_X3_make_76 {d : Nat} {h : mxH} {Q : mxRes → mxH → Prop} (x0 : Nat) (x1 : Nat) (x2 : Int32) (x4 : Int32)
    (P : hpK h x0 = 3 ∧ (((hpI h x0 3) < (1 : Int32) → Q (.inl (some (.int (0 : Int32)))) h) ∧ (¬ (hpI h x0 3) < (1 : Int32) → (((hpI h x0 3) < (3200 : Int32) → ∃ b1 : Nat, hpR h x0 2 = some b1 ∧ hpK h b1 = 16 ∧ vp_in (hpI h x0 3) (hpZ h b1) ∧ ∀ h1 : mxH, h1 = hsI h b1 (hpI h x0 3).toNatClampNeg ((1 : Int32) &&& 1) → ∃ b2 : Nat, hpR h1 x0 1 = some b2 ∧ hpK h1 b2 = 14 ∧ vp_in (hpI h x0 3) (hpZ h1 b2) ∧ ∀ h2 : mxH, h2 = hsI h1 b2 (hpI h x0 3).toNatClampNeg x4 → ∃ b3 : Nat, hpR h2 x0 0 = some b3 ∧ hpK h2 x1 = 13 ∧ hpK h2 b3 = 13 ∧ ¬ x2 < 0 ∧ ¬ ((hpI h x0 3) * (80 : Int32)) < 0 ∧ ¬ x4 < 0 ∧ x2.toNatClampNeg + x4.toNatClampNeg ≤ hpZ h2 x1 ∧ ((hpI h x0 3) * (80 : Int32)).toNatClampNeg + x4.toNatClampNeg ≤ hpZ h2 b3 ∧ (∀ i, i < x4.toNatClampNeg → fits .byte (.int (hpI h2 x1 (x2.toNatClampNeg + i))) = true) ∧ 1 ≤ d ∧ ∀ h3 : mxH, h3 = hrI h2 b3 (va_cpy (hpI h2 x1) (hpI h2 b3) x2.toNatClampNeg ((hpI h x0 3) * (80 : Int32)).toNatClampNeg x4.toNatClampNeg) → ∀ h4 : mxH, h4 = hsI h3 x0 3 ((hpI h3 x0 3) + (1 : Int32)) → (((hpI h4 x0 3) ≤ (hpI h4 x0 4) → Q (.inl (some (.int (hpI h x0 3)))) h4) ∧ (¬ (hpI h4 x0 3) ≤ (hpI h4 x0 4) → ∀ h5 : mxH, h5 = hsI h4 x0 4 (hpI h4 x0 3) → Q (.inl (some (.int (hpI h x0 3)))) h5))) ∧ (¬ (hpI h x0 3) < (3200 : Int32) → Q (.inl (some (.int (0 : Int32)))) h))))) : mx_SX mY_X3_make d 76 [(0, .ref x0), (1, .ref x1), (2, .int x2), (4, .int x4)] [] h Q := by
  refine mx_aload_n (pc := 76) 0 (mx_dd dd_X3_make_1 0 (76, .aload_n 0, 1) rfl) rfl rfl ?_
  obtain ⟨g1, P⟩ := P
  refine mx_getI (pc := 77) mx_fl_X3_24 g1 rfl (mx_dd dd_X3_make_1 1 (77, .getfield 24, 3) rfl) ?_
  refine mx_iconst (pc := 80) (v := (1 : Int32)) (mx_dd dd_X3_make_1 2 (80, .iconst 1, 1) rfl) (by decide) ?_
  refine mx_icmp_lt (pc := 81) 94 (mx_dd dd_X3_make_1 3 (81, .if_icmp .lt 13, 3) rfl) rfl (fun c81 => ?_) (fun c81 => ?_)
  · have P := P.1 c81
    refine mx_iconst (pc := 94) (v := (0 : Int32)) (mx_dd dd_X3_make_1 8 (94, .iconst 0, 1) rfl) (by decide) ?_
    exact mx_ireturn (pc := 95) (mx_dd dd_X3_make_1 9 (95, .ireturn, 1) rfl) rfl rfl P
  · have P := P.2 c81
    refine mx_aload_n (pc := 84) 0 (mx_dd dd_X3_make_1 4 (84, .aload_n 0, 1) rfl) rfl rfl ?_
    refine mx_getI (pc := 85) mx_fl_X3_24 g1 rfl (mx_dd dd_X3_make_1 5 (85, .getfield 24, 3) rfl) ?_
    refine mx_sipush (pc := 88) (v := (3200 : Int32)) (mx_dd dd_X3_make_1 6 (88, .sipush 3200, 3) rfl) (by decide) ?_
    refine mx_icmp_lt (pc := 91) 96 (mx_dd dd_X3_make_1 7 (91, .if_icmp .lt 5, 3) rfl) rfl (fun c91 => ?_) (fun c91 => ?_)
    · have P := P.1 c91
      refine mx_aload_n (pc := 96) 0 (mx_dd dd_X3_make_1 10 (96, .aload_n 0, 1) rfl) rfl rfl ?_
      refine mx_getI (pc := 97) mx_fl_X3_24 g1 rfl (mx_dd dd_X3_make_1 11 (97, .getfield 24, 3) rfl) ?_
      refine mx_istore (pc := 100) (mx_dd dd_X3_make_1 12 (100, .istore 5, 2) rfl) (by decide) (lv' := [(5, _), (0, _), (1, _), (2, _), (4, _)]) rfl ?_
      refine mx_aload_n (pc := 102) 1 (mx_dd dd_X3_make_1 13 (102, .aload_n 0, 1) rfl) rfl rfl ?_
      obtain ⟨b1, g2, P⟩ := P
      refine mx_getR (pc := 103) mx_fl_X3_20 g1 rfl g2 (mx_dd dd_X3_make_1 14 (103, .getfield 20, 3) rfl) ?_
      refine mx_iload (pc := 106) 0 (mx_dd dd_X3_make_1 15 (106, .iload 5, 2) rfl) rfl ?_
      refine mx_iconst (pc := 108) (v := (1 : Int32)) (mx_dd dd_X3_make_1 16 (108, .iconst 1, 1) rfl) (by decide) ?_
      obtain ⟨g3, P⟩ := P
      obtain ⟨g4, P⟩ := P
      refine mx_zast (pc := 109) g3 g4 (mx_dd dd_X3_make_1 17 (109, .bastore, 1) rfl) ?_
      have P := P _ rfl
      refine mx_aload_n (pc := 110) 1 (mx_dd dd_X3_make_1 18 (110, .aload_n 0, 1) rfl) rfl rfl ?_
      obtain ⟨b2, g5, P⟩ := P
      refine mx_getR (pc := 111) mx_fl_X3_16 g1 rfl g5 (mx_dd dd_X3_make_1 19 (111, .getfield 16, 3) rfl) ?_
      refine mx_iload (pc := 114) 0 (mx_dd dd_X3_make_1 20 (114, .iload 5, 2) rfl) rfl ?_
      refine mx_iload (pc := 116) 4 (mx_dd dd_X3_make_1 21 (116, .iload 4, 2) rfl) rfl ?_
      obtain ⟨g6, P⟩ := P
      obtain ⟨g7, P⟩ := P
      refine mx_iast (pc := 118) g6 g7 (mx_dd dd_X3_make_1 22 (118, .iastore, 1) rfl) ?_
      have P := P _ rfl
      refine mx_aload_n (pc := 119) 2 (mx_dd dd_X3_make_1 23 (119, .aload_n 1, 1) rfl) rfl rfl ?_
      refine mx_iload_n (pc := 120) 3 (mx_dd dd_X3_make_1 24 (120, .iload_n 2, 1) rfl) rfl rfl ?_
      refine mx_aload_n (pc := 121) 1 (mx_dd dd_X3_make_1 25 (121, .aload_n 0, 1) rfl) rfl rfl ?_
      obtain ⟨b3, g8, P⟩ := P
      refine mx_getR (pc := 122) mx_fl_X3_12 g1 rfl g8 (mx_dd dd_X3_make_1 26 (122, .getfield 12, 3) rfl) ?_
      refine mx_iload (pc := 125) 0 (mx_dd dd_X3_make_1 27 (125, .iload 5, 2) rfl) rfl ?_
      refine mx_bipush (pc := 127) (v := (80 : Int32)) (mx_dd dd_X3_make_1 28 (127, .bipush 80, 2) rfl) (by decide) ?_
      refine mx_imul (pc := 129) (mx_dd dd_X3_make_1 29 (129, .imul, 1) rfl) ?_
      refine mx_iload (pc := 130) 4 (mx_dd dd_X3_make_1 30 (130, .iload 4, 2) rfl) rfl ?_
      obtain ⟨g9, P⟩ := P
      obtain ⟨g10, P⟩ := P
      obtain ⟨g11, P⟩ := P
      obtain ⟨g12, P⟩ := P
      obtain ⟨g13, P⟩ := P
      obtain ⟨g14, P⟩ := P
      obtain ⟨g15, P⟩ := P
      obtain ⟨g16, P⟩ := P
      obtain ⟨g17, P⟩ := P
      refine mx_copyI (pc := 132) g9 g10 (by decide) g11 g12 g13 g14 g15 (fun _ => g16) mx_cl_X3_35 mx_cpn mx_cps mx_cpi (by decide) (mx_dd dd_X3_make_1 31 (132, .invokestatic 35, 3) rfl) g17 ?_
      have P := P _ rfl
      refine mx_aload_n (pc := 135) 1 (mx_dd dd_X3_make_1 32 (135, .aload_n 0, 1) rfl) rfl rfl ?_
      refine mx_dup (pc := 136) (mx_dd dd_X3_make_1 33 (136, .dup, 1) rfl) rfl ?_
      refine mx_getI (pc := 137) mx_fl_X3_24 g1 rfl (mx_dd dd_X3_make_1 34 (137, .getfield 24, 3) rfl) ?_
      refine mx_iconst (pc := 140) (v := (1 : Int32)) (mx_dd dd_X3_make_1 35 (140, .iconst 1, 1) rfl) (by decide) ?_
      refine mx_iadd (pc := 141) (mx_dd dd_X3_make_1 36 (141, .iadd, 1) rfl) ?_
      refine mx_putI (pc := 142) mx_fl_X3_24 g1 rfl (.inl rfl) rfl rfl (mx_dd dd_X3_make_1 37 (142, .putfield 24, 3) rfl) ?_
      have P := P _ rfl
      refine mx_aload_n (pc := 145) 1 (mx_dd dd_X3_make_1 38 (145, .aload_n 0, 1) rfl) rfl rfl ?_
      refine mx_getI (pc := 146) mx_fl_X3_28 g1 rfl (mx_dd dd_X3_make_1 39 (146, .getfield 28, 3) rfl) ?_
      refine mx_aload_n (pc := 149) 1 (mx_dd dd_X3_make_2 0 (149, .aload_n 0, 1) rfl) rfl rfl ?_
      refine mx_getI (pc := 150) mx_fl_X3_24 g1 rfl (mx_dd dd_X3_make_2 1 (150, .getfield 24, 3) rfl) ?_
      refine mx_icmp_ge (pc := 153) 164 (mx_dd dd_X3_make_2 2 (153, .if_icmp .ge 11, 3) rfl) rfl (fun c153 => ?_) (fun c153 => ?_)
      · have P := P.1 c153
        refine mx_iload (pc := 164) 0 (mx_dd dd_X3_make_2 7 (164, .iload 5, 2) rfl) rfl ?_
        exact mx_ireturn (pc := 166) (mx_dd dd_X3_make_2 8 (166, .ireturn, 1) rfl) rfl rfl P
      · have P := P.2 c153
        refine mx_aload_n (pc := 156) 1 (mx_dd dd_X3_make_2 3 (156, .aload_n 0, 1) rfl) rfl rfl ?_
        refine mx_aload_n (pc := 157) 1 (mx_dd dd_X3_make_2 4 (157, .aload_n 0, 1) rfl) rfl rfl ?_
        refine mx_getI (pc := 158) mx_fl_X3_24 g1 rfl (mx_dd dd_X3_make_2 5 (158, .getfield 24, 3) rfl) ?_
        refine mx_putI (pc := 161) mx_fl_X3_28 g1 rfl (.inl rfl) rfl rfl (mx_dd dd_X3_make_2 6 (161, .putfield 28, 3) rfl) ?_
        have P := P _ rfl
        refine mx_iload (pc := 164) 0 (mx_dd dd_X3_make_2 7 (164, .iload 5, 2) rfl) rfl ?_
        exact mx_ireturn (pc := 166) (mx_dd dd_X3_make_2 8 (166, .ireturn, 1) rfl) rfl rfl P
    · have P := P.2 c91
      refine mx_iconst (pc := 94) (v := (0 : Int32)) (mx_dd dd_X3_make_1 8 (94, .iconst 0, 1) rfl) (by decide) ?_
      exact mx_ireturn (pc := 95) (mx_dd dd_X3_make_1 9 (95, .ireturn, 1) rfl) rfl rfl P
theorem b_X3_copyTo {d : Nat} {h : mxH} {Q : mxRes → mxH → Prop} (x0 : Nat) (x1 : Int32) (x2 : Nat) (x3 : Int32)
    (P : ((x1 < 0 → Q (.inl (some (.int x3))) h) ∧ (¬ x1 < 0 → (((3200 : Int32) ≤ x1 → Q (.inl (some (.int x3))) h) ∧ (¬ (3200 : Int32) ≤ x1 → ((x3 < 0 → Q (.inl (some (.int x3))) h) ∧ (¬ x3 < 0 → hpK h x2 = 13 ∧ ((x3 ≤ (nI (hpZ h x2)) → hpK h x0 = 3 ∧ ∃ b1 : Nat, hpR h x0 1 = some b1 ∧ hpK h b1 = 14 ∧ vp_in x1 (hpZ h b1) ∧ ((((nI (hpZ h x2)) - x3) ≤ (hpI h b1 x1.toNatClampNeg) → ∃ b2 : Nat, hpR h x0 0 = some b2 ∧ hpK h b2 = 13 ∧ ¬ (x1 * (80 : Int32)) < 0 ∧ ¬ x3 < 0 ∧ ¬ ((nI (hpZ h x2)) - x3) < 0 ∧ (x1 * (80 : Int32)).toNatClampNeg + ((nI (hpZ h x2)) - x3).toNatClampNeg ≤ hpZ h b2 ∧ x3.toNatClampNeg + ((nI (hpZ h x2)) - x3).toNatClampNeg ≤ hpZ h x2 ∧ (∀ i, i < ((nI (hpZ h x2)) - x3).toNatClampNeg → fits .byte (.int (hpI h b2 ((x1 * (80 : Int32)).toNatClampNeg + i))) = true) ∧ 1 ≤ d ∧ ∀ h1 : mxH, h1 = hrI h x2 (va_cpy (hpI h b2) (hpI h x2) (x1 * (80 : Int32)).toNatClampNeg x3.toNatClampNeg ((nI (hpZ h x2)) - x3).toNatClampNeg) → Q (.inl (some (.int (x3 + ((nI (hpZ h x2)) - x3))))) h1) ∧ (¬ ((nI (hpZ h x2)) - x3) ≤ (hpI h b1 x1.toNatClampNeg) → ∃ b3 : Nat, hpR h x0 0 = some b3 ∧ hpK h b3 = 13 ∧ ¬ (x1 * (80 : Int32)) < 0 ∧ ¬ x3 < 0 ∧ ¬ (hpI h b1 x1.toNatClampNeg) < 0 ∧ (x1 * (80 : Int32)).toNatClampNeg + (hpI h b1 x1.toNatClampNeg).toNatClampNeg ≤ hpZ h b3 ∧ x3.toNatClampNeg + (hpI h b1 x1.toNatClampNeg).toNatClampNeg ≤ hpZ h x2 ∧ (∀ i, i < (hpI h b1 x1.toNatClampNeg).toNatClampNeg → fits .byte (.int (hpI h b3 ((x1 * (80 : Int32)).toNatClampNeg + i))) = true) ∧ 1 ≤ d ∧ ∀ h2 : mxH, h2 = hrI h x2 (va_cpy (hpI h b3) (hpI h x2) (x1 * (80 : Int32)).toNatClampNeg x3.toNatClampNeg (hpI h b1 x1.toNatClampNeg).toNatClampNeg) → Q (.inl (some (.int (x3 + (hpI h b1 x1.toNatClampNeg))))) h2))) ∧ (¬ x3 ≤ (nI (hpZ h x2)) → Q (.inl (some (.int x3))) h))))))))) : mx_SM mY_X3_copyTo d [.ref x0, .int x1, .ref x2, .int x3] h Q := by
  refine mx_SM_of (by decide) (Nat.le_of_ble_eq_true rfl) ?_
  show mx_SX mY_X3_copyTo d 0 [(0, .ref x0), (1, .int x1), (2, .ref x2), (3, .int x3)] [] h Q
  refine mx_iload_n (pc := 0) 1 (mx_dd dd_X3_copyTo 0 (0, .iload_n 1, 1) rfl) rfl rfl ?_
  refine mx_if_lt (pc := 1) 21 (mx_dd dd_X3_copyTo 1 (1, .ifCond .lt 20, 3) rfl) rfl (fun c1 => ?_) (fun c1 => ?_)
  · have P := P.1 c1
    refine mx_iload_n (pc := 21) 3 (mx_dd dd_X3_copyTo 11 (21, .iload_n 3, 1) rfl) rfl rfl ?_
    exact mx_ireturn (pc := 22) (mx_dd dd_X3_copyTo 12 (22, .ireturn, 1) rfl) rfl rfl P
  · have P := P.2 c1
    refine mx_iload_n (pc := 4) 1 (mx_dd dd_X3_copyTo 2 (4, .iload_n 1, 1) rfl) rfl rfl ?_
    refine mx_sipush (pc := 5) (v := (3200 : Int32)) (mx_dd dd_X3_copyTo 3 (5, .sipush 3200, 3) rfl) (by decide) ?_
    refine mx_icmp_ge (pc := 8) 21 (mx_dd dd_X3_copyTo 4 (8, .if_icmp .ge 13, 3) rfl) rfl (fun c8 => ?_) (fun c8 => ?_)
    · have P := P.1 c8
      refine mx_iload_n (pc := 21) 3 (mx_dd dd_X3_copyTo 11 (21, .iload_n 3, 1) rfl) rfl rfl ?_
      exact mx_ireturn (pc := 22) (mx_dd dd_X3_copyTo 12 (22, .ireturn, 1) rfl) rfl rfl P
    · have P := P.2 c8
      refine mx_iload_n (pc := 11) 3 (mx_dd dd_X3_copyTo 5 (11, .iload_n 3, 1) rfl) rfl rfl ?_
      refine mx_if_lt (pc := 12) 21 (mx_dd dd_X3_copyTo 6 (12, .ifCond .lt 9, 3) rfl) rfl (fun c12 => ?_) (fun c12 => ?_)
      · have P := P.1 c12
        refine mx_iload_n (pc := 21) 3 (mx_dd dd_X3_copyTo 11 (21, .iload_n 3, 1) rfl) rfl rfl ?_
        exact mx_ireturn (pc := 22) (mx_dd dd_X3_copyTo 12 (22, .ireturn, 1) rfl) rfl rfl P
      · have P := P.2 c12
        refine mx_iload_n (pc := 15) 3 (mx_dd dd_X3_copyTo 7 (15, .iload_n 3, 1) rfl) rfl rfl ?_
        refine mx_aload_n (pc := 16) 2 (mx_dd dd_X3_copyTo 8 (16, .aload_n 2, 1) rfl) rfl rfl ?_
        obtain ⟨g1, P⟩ := P
        refine mx_alen (pc := 17) g1 (by decide) (mx_dd dd_X3_copyTo 9 (17, .arraylength, 1) rfl) ?_
        refine mx_icmp_le (pc := 18) 23 (mx_dd dd_X3_copyTo 10 (18, .if_icmp .le 5, 3) rfl) rfl (fun c18 => ?_) (fun c18 => ?_)
        · have P := P.1 c18
          refine mx_aload_n (pc := 23) 2 (mx_dd dd_X3_copyTo 13 (23, .aload_n 2, 1) rfl) rfl rfl ?_
          refine mx_alen (pc := 24) g1 (by decide) (mx_dd dd_X3_copyTo 14 (24, .arraylength, 1) rfl) ?_
          refine mx_iload_n (pc := 25) 3 (mx_dd dd_X3_copyTo 15 (25, .iload_n 3, 1) rfl) rfl rfl ?_
          refine mx_isub (pc := 26) (mx_dd dd_X3_copyTo 16 (26, .isub, 1) rfl) ?_
          refine mx_istore (pc := 27) (mx_dd dd_X3_copyTo 17 (27, .istore 4, 2) rfl) (by decide) (lv' := [(4, _), (0, _), (1, _), (2, _), (3, _)]) rfl ?_
          refine mx_aload_n (pc := 29) 1 (mx_dd dd_X3_copyTo 18 (29, .aload_n 0, 1) rfl) rfl rfl ?_
          obtain ⟨g2, P⟩ := P
          obtain ⟨b1, g3, P⟩ := P
          refine mx_getR (pc := 30) mx_fl_X3_16 g2 rfl g3 (mx_dd dd_X3_copyTo 19 (30, .getfield 16, 3) rfl) ?_
          refine mx_iload_n (pc := 33) 2 (mx_dd dd_X3_copyTo 20 (33, .iload_n 1, 1) rfl) rfl rfl ?_
          obtain ⟨g4, P⟩ := P
          obtain ⟨g5, P⟩ := P
          refine mx_iald (pc := 34) g4 g5 (mx_dd dd_X3_copyTo 21 (34, .iaload, 1) rfl) ?_
          refine mx_iload (pc := 35) 0 (mx_dd dd_X3_copyTo 22 (35, .iload 4, 2) rfl) rfl ?_
          refine mx_icmp_ge (pc := 37) 49 (mx_dd dd_X3_copyTo 23 (37, .if_icmp .ge 12, 3) rfl) rfl (fun c37 => ?_) (fun c37 => ?_)
          · have P := P.1 c37
            refine mx_iload (pc := 49) 0 (mx_dd dd_X3_copyTo 29 (49, .iload 4, 2) rfl) rfl ?_
            refine mx_istore (pc := 51) (mx_dd dd_X3_copyTo 30 (51, .istore 5, 2) rfl) (by decide) (lv' := [(5, _), (4, _), (0, _), (1, _), (2, _), (3, _)]) rfl ?_
            refine mx_aload_n (pc := 53) 2 (mx_dd dd_X3_copyTo 31 (53, .aload_n 0, 1) rfl) rfl rfl ?_
            obtain ⟨b2, g6, P⟩ := P
            refine mx_getR (pc := 54) mx_fl_X3_12 g2 rfl g6 (mx_dd dd_X3_copyTo 32 (54, .getfield 12, 3) rfl) ?_
            refine mx_iload_n (pc := 57) 3 (mx_dd dd_X3_copyTo 33 (57, .iload_n 1, 1) rfl) rfl rfl ?_
            refine mx_bipush (pc := 58) (v := (80 : Int32)) (mx_dd dd_X3_copyTo 34 (58, .bipush 80, 2) rfl) (by decide) ?_
            refine mx_imul (pc := 60) (mx_dd dd_X3_copyTo 35 (60, .imul, 1) rfl) ?_
            refine mx_aload_n (pc := 61) 4 (mx_dd dd_X3_copyTo 36 (61, .aload_n 2, 1) rfl) rfl rfl ?_
            refine mx_iload_n (pc := 62) 5 (mx_dd dd_X3_copyTo 37 (62, .iload_n 3, 1) rfl) rfl rfl ?_
            refine mx_iload (pc := 63) 0 (mx_dd dd_X3_copyTo 38 (63, .iload 5, 2) rfl) rfl ?_
            obtain ⟨g7, P⟩ := P
            obtain ⟨g8, P⟩ := P
            obtain ⟨g9, P⟩ := P
            obtain ⟨g10, P⟩ := P
            obtain ⟨g11, P⟩ := P
            obtain ⟨g12, P⟩ := P
            obtain ⟨g13, P⟩ := P
            obtain ⟨g14, P⟩ := P
            refine mx_copyI (pc := 65) g7 g1 (by decide) g8 g9 g10 g11 g12 (fun _ => g13) mx_cl_X3_35 mx_cpn mx_cps mx_cpi (by decide) (mx_dd dd_X3_copyTo 39 (65, .invokestatic 35, 3) rfl) g14 ?_
            have P := P _ rfl
            refine mx_iload_n (pc := 68) 5 (mx_dd dd_X3_copyTo 40 (68, .iload_n 3, 1) rfl) rfl rfl ?_
            refine mx_iload (pc := 69) 0 (mx_dd dd_X3_copyTo 41 (69, .iload 5, 2) rfl) rfl ?_
            refine mx_iadd (pc := 71) (mx_dd dd_X3_copyTo 42 (71, .iadd, 1) rfl) ?_
            exact mx_ireturn (pc := 72) (mx_dd dd_X3_copyTo 43 (72, .ireturn, 1) rfl) rfl rfl P
          · have P := P.2 c37
            refine mx_aload_n (pc := 40) 1 (mx_dd dd_X3_copyTo 24 (40, .aload_n 0, 1) rfl) rfl rfl ?_
            refine mx_getR (pc := 41) mx_fl_X3_16 g2 rfl g3 (mx_dd dd_X3_copyTo 25 (41, .getfield 16, 3) rfl) ?_
            refine mx_iload_n (pc := 44) 2 (mx_dd dd_X3_copyTo 26 (44, .iload_n 1, 1) rfl) rfl rfl ?_
            refine mx_iald (pc := 45) g4 g5 (mx_dd dd_X3_copyTo 27 (45, .iaload, 1) rfl) ?_
            refine mx_goto (pc := 46) 51 (mx_dd dd_X3_copyTo 28 (46, .goto 5, 3) rfl) rfl ?_
            refine mx_istore (pc := 51) (mx_dd dd_X3_copyTo 30 (51, .istore 5, 2) rfl) (by decide) (lv' := [(5, _), (4, _), (0, _), (1, _), (2, _), (3, _)]) rfl ?_
            refine mx_aload_n (pc := 53) 2 (mx_dd dd_X3_copyTo 31 (53, .aload_n 0, 1) rfl) rfl rfl ?_
            obtain ⟨b3, g15, P⟩ := P
            refine mx_getR (pc := 54) mx_fl_X3_12 g2 rfl g15 (mx_dd dd_X3_copyTo 32 (54, .getfield 12, 3) rfl) ?_
            refine mx_iload_n (pc := 57) 3 (mx_dd dd_X3_copyTo 33 (57, .iload_n 1, 1) rfl) rfl rfl ?_
            refine mx_bipush (pc := 58) (v := (80 : Int32)) (mx_dd dd_X3_copyTo 34 (58, .bipush 80, 2) rfl) (by decide) ?_
            refine mx_imul (pc := 60) (mx_dd dd_X3_copyTo 35 (60, .imul, 1) rfl) ?_
            refine mx_aload_n (pc := 61) 4 (mx_dd dd_X3_copyTo 36 (61, .aload_n 2, 1) rfl) rfl rfl ?_
            refine mx_iload_n (pc := 62) 5 (mx_dd dd_X3_copyTo 37 (62, .iload_n 3, 1) rfl) rfl rfl ?_
            refine mx_iload (pc := 63) 0 (mx_dd dd_X3_copyTo 38 (63, .iload 5, 2) rfl) rfl ?_
            obtain ⟨g16, P⟩ := P
            obtain ⟨g17, P⟩ := P
            obtain ⟨g18, P⟩ := P
            obtain ⟨g19, P⟩ := P
            obtain ⟨g20, P⟩ := P
            obtain ⟨g21, P⟩ := P
            obtain ⟨g22, P⟩ := P
            obtain ⟨g23, P⟩ := P
            refine mx_copyI (pc := 65) g16 g1 (by decide) g17 g18 g19 g20 g21 (fun _ => g22) mx_cl_X3_35 mx_cpn mx_cps mx_cpi (by decide) (mx_dd dd_X3_copyTo 39 (65, .invokestatic 35, 3) rfl) g23 ?_
            have P := P _ rfl
            refine mx_iload_n (pc := 68) 5 (mx_dd dd_X3_copyTo 40 (68, .iload_n 3, 1) rfl) rfl rfl ?_
            refine mx_iload (pc := 69) 0 (mx_dd dd_X3_copyTo 41 (69, .iload 5, 2) rfl) rfl ?_
            refine mx_iadd (pc := 71) (mx_dd dd_X3_copyTo 42 (71, .iadd, 1) rfl) ?_
            exact mx_ireturn (pc := 72) (mx_dd dd_X3_copyTo 43 (72, .ireturn, 1) rfl) rfl rfl P
        · have P := P.2 c18
          refine mx_iload_n (pc := 21) 3 (mx_dd dd_X3_copyTo 11 (21, .iload_n 3, 1) rfl) rfl rfl ?_
          exact mx_ireturn (pc := 22) (mx_dd dd_X3_copyTo 12 (22, .ireturn, 1) rfl) rfl rfl P
theorem b_X5_init {d : Nat} {h : mxH} {Q : mxRes → mxH → Prop} (x0 : Nat)
    (P : 1 ≤ d ∧ Q (.inl none) h) : mx_SM mY_X5_init d [.ref x0] h Q := by
  refine mx_SM_of (by decide) (Nat.le_of_ble_eq_true rfl) ?_
  show mx_SX mY_X5_init d 0 [(0, .ref x0)] [] h Q
  refine mx_aload_n (pc := 0) 0 (mx_dd dd_X5_init 0 (0, .aload_n 0, 1) rfl) rfl rfl ?_
  obtain ⟨g1, P⟩ := P
  refine mx_objInit (pc := 1) mx_oi_X5_1 mx_oii mx_oic (by decide) (mx_dd dd_X5_init 1 (1, .invokespecial 1, 3) rfl) g1 ?_
  exact mx_return (pc := 4) (mx_dd dd_X5_init 2 (4, .return_, 1) rfl) rfl P
theorem b_X8_init {d : Nat} {h : mxH} {Q : mxRes → mxH → Prop} (x0 : Nat) (x1 : Nat)
    (P : 1 ≤ d ∧ ∀ (b1 : Nat) (h1 : mxH), b1 = hpN h → h1 = hnw h 9 0 3 → mx_SM mY_X9_init (d - 1) [.ref b1, .int (20 : Int32)] h1 (mx_KV (fun h2 => hpK h2 x0 = 8 ∧ ∀ h3 : mxH, h3 = hsR h2 x0 0 (some b1) → ∀ (b2 : Nat) (h4 : mxH), b2 = hpN h3 → h4 = hnw h3 9 0 3 → mx_SM mY_X9_init (d - 1) [.ref b2, .int (10 : Int32)] h4 (mx_KV (fun h5 => hpK h5 x0 = 8 ∧ ∀ h6 : mxH, h6 = hsR h5 x0 1 (some b2) → ∀ (b3 : Nat) (h7 : mxH), b3 = hpN h6 → h7 = hnw h6 15 4 4 → hpK h7 x0 = 8 ∧ ∀ h8 : mxH, h8 = hsR h7 x0 2 (some b3) → ∀ (b4 : Nat) (h9 : mxH), b4 = hpN h8 → h9 = hnw h8 2 0 2 → mx_SM mY_X2_init (d - 1) [.ref b4, .ref x1] h9 (mx_KV (fun h10 => hpK h10 x0 = 8 ∧ ∀ h11 : mxH, h11 = hsR h10 x0 3 (some b4) → ∀ (b5 : Nat) (h12 : mxH), b5 = hpN h11 → h12 = hnw h11 19 8 8 → hpK h12 x0 = 8 ∧ ∀ h13 : mxH, h13 = hsR h12 x0 15 (some b5) → ∀ (b6 : Nat) (h14 : mxH), b6 = hpN h13 → h14 = hnw h13 14 8 8 → hpK h14 x0 = 8 ∧ ∀ h15 : mxH, h15 = hsR h14 x0 16 (some b6) → ∀ (b7 : Nat) (h16 : mxH), b7 = hpN h15 → h16 = hnw h15 14 8 8 → hpK h16 x0 = 8 ∧ ∀ h17 : mxH, h17 = hsR h16 x0 17 (some b7) → Q (.inl none) h17) fun _ _ => False)) fun _ _ => False)) fun _ _ => False)) : mx_SM mY_X8_init d [.ref x0, .ref x1] h Q := by
  refine mx_SM_of (by decide) (Nat.le_of_ble_eq_true rfl) ?_
  show mx_SX mY_X8_init d 0 [(0, .ref x0), (1, .ref x1)] [] h Q
  refine mx_aload_n (pc := 0) 0 (mx_dd dd_X8_init 0 (0, .aload_n 0, 1) rfl) rfl rfl ?_
  obtain ⟨g1, P⟩ := P
  refine mx_objInit (pc := 1) mx_oi_X8_3 mx_oii mx_oic (by decide) (mx_dd dd_X8_init 1 (1, .invokespecial 3, 3) rfl) g1 ?_
  refine mx_aload_n (pc := 4) 0 (mx_dd dd_X8_init 2 (4, .aload_n 0, 1) rfl) rfl rfl ?_
  refine mx_new (pc := 5) mx_nw_X8_9 (mx_nofd _) (mx_dd dd_X8_init 3 (5, .new 9, 3) rfl) ?_
  have P := P _ _ rfl rfl
  refine mx_dup (pc := 8) (mx_dd dd_X8_init 4 (8, .dup, 1) rfl) rfl ?_
  refine mx_bipush (pc := 9) (v := (20 : Int32)) (mx_dd dd_X8_init 5 (9, .bipush 20, 2) rfl) (by decide) ?_
  refine mx_cI (pc := 11) (Y := mY_X9_init) (As := [.int (20 : Int32)]) mx_ml_X8_13 mx_y_X9_init rfl rfl (by simp [Value.category]) rfl (mx_dd dd_X8_init 6 (11, .invokespecial 13, 3) rfl) g1 (by decide) P (fun h2 P => ?_)
  obtain ⟨g2, P⟩ := P
  refine mx_putR (pc := 14) mx_fl_X8_16 g2 rfl (.inr ⟨rfl, rfl, rfl⟩) (mx_dd dd_X8_init 7 (14, .putfield 16, 3) rfl) ?_
  have P := P _ rfl
  refine mx_aload_n (pc := 17) 0 (mx_dd dd_X8_init 8 (17, .aload_n 0, 1) rfl) rfl rfl ?_
  refine mx_new (pc := 18) mx_nw_X8_9 (mx_nofd _) (mx_dd dd_X8_init 9 (18, .new 9, 3) rfl) ?_
  have P := P _ _ rfl rfl
  refine mx_dup (pc := 21) (mx_dd dd_X8_init 10 (21, .dup, 1) rfl) rfl ?_
  refine mx_bipush (pc := 22) (v := (10 : Int32)) (mx_dd dd_X8_init 11 (22, .bipush 10, 2) rfl) (by decide) ?_
  refine mx_cI (pc := 24) (Y := mY_X9_init) (As := [.int (10 : Int32)]) mx_ml_X8_13 mx_y_X9_init rfl rfl (by simp [Value.category]) rfl (mx_dd dd_X8_init 12 (24, .invokespecial 13, 3) rfl) g1 (by decide) P (fun h5 P => ?_)
  obtain ⟨g3, P⟩ := P
  refine mx_putR (pc := 27) mx_fl_X8_20 g3 rfl (.inr ⟨rfl, rfl, rfl⟩) (mx_dd dd_X8_init 13 (27, .putfield 20, 3) rfl) ?_
  have P := P _ rfl
  refine mx_aload_n (pc := 30) 0 (mx_dd dd_X8_init 14 (30, .aload_n 0, 1) rfl) rfl rfl ?_
  refine mx_iconst (pc := 31) (v := (4 : Int32)) (mx_dd dd_X8_init 15 (31, .iconst 4, 1) rfl) (by decide) ?_
  refine mx_newa (pc := 32) (N := 4) (kd := 15) (by decide) rfl mx_ac_15 (by decide) (by decide) (by decide) (mx_dd dd_X8_init 16 (32, .newarray .long, 2) rfl) ?_
  have P := P _ _ rfl rfl
  obtain ⟨g4, P⟩ := P
  refine mx_putR (pc := 34) mx_fl_X8_23 g4 rfl (.inr ⟨rfl, rfl, rfl⟩) (mx_dd dd_X8_init 17 (34, .putfield 23, 3) rfl) ?_
  have P := P _ rfl
  refine mx_aload_n (pc := 37) 0 (mx_dd dd_X8_init 18 (37, .aload_n 0, 1) rfl) rfl rfl ?_
  refine mx_new (pc := 38) mx_nw_X8_27 (mx_nofd _) (mx_dd dd_X8_init 19 (38, .new 27, 3) rfl) ?_
  have P := P _ _ rfl rfl
  refine mx_dup (pc := 41) (mx_dd dd_X8_init 20 (41, .dup, 1) rfl) rfl ?_
  refine mx_aload_n (pc := 42) 1 (mx_dd dd_X8_init 21 (42, .aload_n 1, 1) rfl) rfl rfl ?_
  refine mx_cI (pc := 43) (Y := mY_X2_init) (As := [.ref x1]) mx_ml_X8_29 mx_y_X2_init rfl rfl (by simp [Value.category]) rfl (mx_dd dd_X8_init 22 (43, .invokespecial 29, 3) rfl) g1 (by decide) P (fun h10 P => ?_)
  obtain ⟨g5, P⟩ := P
  refine mx_putR (pc := 46) mx_fl_X8_32 g5 rfl (.inr ⟨rfl, rfl, rfl⟩) (mx_dd dd_X8_init 23 (46, .putfield 32, 3) rfl) ?_
  have P := P _ rfl
  refine mx_aload_n (pc := 49) 0 (mx_dd dd_X8_init 24 (49, .aload_n 0, 1) rfl) rfl rfl ?_
  refine mx_bipush (pc := 50) (v := (8 : Int32)) (mx_dd dd_X8_init 25 (50, .bipush 8, 2) rfl) (by decide) ?_
  refine mx_newq (pc := 52) (N := 8) (kd := 19) (by decide) rfl mx_an_X8_11 (by decide) (by decide) (by decide) (mx_dd dd_X8_init 26 (52, .anewarray 11, 3) rfl) ?_
  have P := P _ _ rfl rfl
  obtain ⟨g6, P⟩ := P
  refine mx_putR (pc := 55) mx_fl_X8_36 g6 rfl (.inr ⟨rfl, rfl, rfl⟩) (mx_dd dd_X8_init 27 (55, .putfield 36, 3) rfl) ?_
  have P := P _ rfl
  refine mx_aload_n (pc := 58) 0 (mx_dd dd_X8_init 28 (58, .aload_n 0, 1) rfl) rfl rfl ?_
  refine mx_bipush (pc := 59) (v := (8 : Int32)) (mx_dd dd_X8_init 29 (59, .bipush 8, 2) rfl) (by decide) ?_
  refine mx_newa (pc := 61) (N := 8) (kd := 14) (by decide) rfl mx_ac_14 (by decide) (by decide) (by decide) (mx_dd dd_X8_init 30 (61, .newarray .int, 2) rfl) ?_
  have P := P _ _ rfl rfl
  obtain ⟨g7, P⟩ := P
  refine mx_putR (pc := 63) mx_fl_X8_40 g7 rfl (.inr ⟨rfl, rfl, rfl⟩) (mx_dd dd_X8_init 31 (63, .putfield 40, 3) rfl) ?_
  have P := P _ rfl
  refine mx_aload_n (pc := 66) 0 (mx_dd dd_X8_init 32 (66, .aload_n 0, 1) rfl) rfl rfl ?_
  refine mx_bipush (pc := 67) (v := (8 : Int32)) (mx_dd dd_X8_init 33 (67, .bipush 8, 2) rfl) (by decide) ?_
  refine mx_newa (pc := 69) (N := 8) (kd := 14) (by decide) rfl mx_ac_14 (by decide) (by decide) (by decide) (mx_dd dd_X8_init 34 (69, .newarray .int, 2) rfl) ?_
  have P := P _ _ rfl rfl
  obtain ⟨g8, P⟩ := P
  refine mx_putR (pc := 71) mx_fl_X8_44 g8 rfl (.inr ⟨rfl, rfl, rfl⟩) (mx_dd dd_X8_init 35 (71, .putfield 44, 3) rfl) ?_
  have P := P _ rfl
  exact mx_return (pc := 74) (mx_dd dd_X8_init 36 (74, .return_, 1) rfl) rfl P
theorem b_X8_beginAnew {d : Nat} {h : mxH} {Q : mxRes → mxH → Prop} (x0 : Nat)
    (P : hpK h x0 = 8 ∧ ∃ b1 : Nat, hpR h x0 0 = some b1 ∧ hpK h b1 = 9 ∧ ∀ h1 : mxH, h1 = hsI h b1 2 (0 : Int32) → ∃ b2 : Nat, hpR h1 x0 1 = some b2 ∧ hpK h1 b2 = 9 ∧ ∀ h2 : mxH, h2 = hsI h1 b2 2 (0 : Int32) → mx_SX mY_X8_beginAnew d 18 [(0, .ref x0), (1, .int (0 : Int32))] [] h2 Q) : mx_SM mY_X8_beginAnew d [.ref x0] h Q := by
  refine mx_SM_of (by decide) (Nat.le_of_ble_eq_true rfl) ?_
  show mx_SX mY_X8_beginAnew d 0 [(0, .ref x0)] [] h Q
  refine mx_aload_n (pc := 0) 0 (mx_dd dd_X8_beginAnew 0 (0, .aload_n 0, 1) rfl) rfl rfl ?_
  obtain ⟨g1, P⟩ := P
  obtain ⟨b1, g2, P⟩ := P
  refine mx_getR (pc := 1) mx_fl_X8_16 g1 rfl g2 (mx_dd dd_X8_beginAnew 1 (1, .getfield 16, 3) rfl) ?_
  refine mx_iconst (pc := 4) (v := (0 : Int32)) (mx_dd dd_X8_beginAnew 2 (4, .iconst 0, 1) rfl) (by decide) ?_
  obtain ⟨g3, P⟩ := P
  refine mx_putI (pc := 5) mx_fl_X8_47 g3 rfl (.inl rfl) rfl rfl (mx_dd dd_X8_beginAnew 3 (5, .putfield 47, 3) rfl) ?_
  have P := P _ rfl
  refine mx_aload_n (pc := 8) 0 (mx_dd dd_X8_beginAnew 4 (8, .aload_n 0, 1) rfl) rfl rfl ?_
  obtain ⟨b2, g4, P⟩ := P
  refine mx_getR (pc := 9) mx_fl_X8_20 g1 rfl g4 (mx_dd dd_X8_beginAnew 5 (9, .getfield 20, 3) rfl) ?_
  refine mx_iconst (pc := 12) (v := (0 : Int32)) (mx_dd dd_X8_beginAnew 6 (12, .iconst 0, 1) rfl) (by decide) ?_
  obtain ⟨g5, P⟩ := P
  refine mx_putI (pc := 13) mx_fl_X8_47 g5 rfl (.inl rfl) rfl rfl (mx_dd dd_X8_beginAnew 7 (13, .putfield 47, 3) rfl) ?_
  have P := P _ rfl
  refine mx_iconst (pc := 16) (v := (0 : Int32)) (mx_dd dd_X8_beginAnew 8 (16, .iconst 0, 1) rfl) (by decide) ?_
  refine mx_istore_n (pc := 17) (mx_dd dd_X8_beginAnew 9 (17, .istore_n 1, 1) rfl) rfl (by decide) (lv' := [(1, _), (0, _)]) rfl ?_
  refine mx_sel [1, 0] rfl ?_
  exact P
theorem b_X8_beginAnew_18 {d : Nat} {h : mxH} {Q : mxRes → mxH → Prop} (x0 : Nat) (x1 : Int32)
    (P : (((4 : Int32) ≤ x1 → hpK h x0 = 8 ∧ ∃ b1 : Nat, hpR h x0 3 = some b1 ∧ 1 ≤ d ∧ hpK h b1 = 2 ∧ mx_SM mY_X2_beginAnew (d - 1) [.ref b1] h (mx_KV (fun h1 => hpK h1 x0 = 8 ∧ ∀ h2 : mxH, h2 = hsI h1 x0 4 (0 : Int32) → ∀ h3 : mxH, h3 = hsI h2 x0 6 (0 : Int32) → mx_SM mY_X8_prepare (d - 1) [.ref x0] h3 (mx_KV (fun h4 => Q (.inl none) h4) (mx_XX mY_X8_beginAnew Q))) (mx_XX mY_X8_beginAnew Q))) ∧ (¬ (4 : Int32) ≤ x1 → hpK h x0 = 8 ∧ ∃ b2 : Nat, hpR h x0 2 = some b2 ∧ hpK h b2 = 15 ∧ vp_in x1 (hpZ h b2) ∧ ∀ h5 : mxH, h5 = hsL h b2 x1.toNatClampNeg (0 : Int64) → mx_SX mY_X8_beginAnew d 18 [(0, .ref x0), (1, .int (x1 + (1 : Int32)))] [] h5 Q))) : mx_SX mY_X8_beginAnew d 18 [(0, .ref x0), (1, .int x1)] [] h Q := by
  refine mx_iload_n (pc := 18) 1 (mx_dd dd_X8_beginAnew 10 (18, .iload_n 1, 1) rfl) rfl rfl ?_
  refine mx_iconst (pc := 19) (v := (4 : Int32)) (mx_dd dd_X8_beginAnew 11 (19, .iconst 4, 1) rfl) (by decide) ?_
  refine mx_icmp_ge (pc := 20) 36 (mx_dd dd_X8_beginAnew 12 (20, .if_icmp .ge 16, 3) rfl) rfl (fun c20 => ?_) (fun c20 => ?_)
  · have P := P.1 c20
    refine mx_aload_n (pc := 36) 0 (mx_dd dd_X8_beginAnew 20 (36, .aload_n 0, 1) rfl) rfl rfl ?_
    obtain ⟨g1, P⟩ := P
    obtain ⟨b1, g2, P⟩ := P
    refine mx_getR (pc := 37) mx_fl_X8_32 g1 rfl g2 (mx_dd dd_X8_beginAnew 21 (37, .getfield 32, 3) rfl) ?_
    obtain ⟨g3, P⟩ := P
    obtain ⟨g4, P⟩ := P
    refine mx_cVV (pc := 40) (Y := mY_X2_beginAnew) (As := []) mx_ml_X8_51 mx_y_X2_beginAnew rfl g4 (by decide) rfl (by decide) rfl (mx_dd dd_X8_beginAnew 22 (40, .invokevirtual 51, 3) rfl) g3 (by decide) P (fun h1 P => ?_)
    refine mx_aload_n (pc := 43) 0 (mx_dd dd_X8_beginAnew 23 (43, .aload_n 0, 1) rfl) rfl rfl ?_
    refine mx_iconst (pc := 44) (v := (0 : Int32)) (mx_dd dd_X8_beginAnew 24 (44, .iconst 0, 1) rfl) (by decide) ?_
    obtain ⟨g5, P⟩ := P
    refine mx_putI (pc := 45) mx_fl_X8_54 g5 rfl (.inl rfl) rfl rfl (mx_dd dd_X8_beginAnew 25 (45, .putfield 54, 3) rfl) ?_
    have P := P _ rfl
    refine mx_aload_n (pc := 48) 0 (mx_dd dd_X8_beginAnew 26 (48, .aload_n 0, 1) rfl) rfl rfl ?_
    refine mx_iconst (pc := 49) (v := (0 : Int32)) (mx_dd dd_X8_beginAnew 27 (49, .iconst 0, 1) rfl) (by decide) ?_
    refine mx_putI (pc := 50) mx_fl_X8_58 g5 rfl (.inl rfl) rfl rfl (mx_dd dd_X8_beginAnew 28 (50, .putfield 58, 3) rfl) ?_
    have P := P _ rfl
    refine mx_aload_n (pc := 53) 0 (mx_dd dd_X8_beginAnew 29 (53, .aload_n 0, 1) rfl) rfl rfl ?_
    refine mx_cVV (pc := 54) (Y := mY_X8_prepare) (As := []) mx_ml_X8_61 mx_y_X8_prepare rfl g5 (by decide) rfl (by decide) rfl (mx_dd dd_X8_beginAnew 30 (54, .invokevirtual 61, 3) rfl) g3 (by decide) P (fun h4 P => ?_)
    exact mx_return (pc := 57) (mx_dd dd_X8_beginAnew 31 (57, .return_, 1) rfl) rfl P
  · have P := P.2 c20
    refine mx_aload_n (pc := 23) 0 (mx_dd dd_X8_beginAnew 13 (23, .aload_n 0, 1) rfl) rfl rfl ?_
    obtain ⟨g6, P⟩ := P
    obtain ⟨b2, g7, P⟩ := P
    refine mx_getR (pc := 24) mx_fl_X8_23 g6 rfl g7 (mx_dd dd_X8_beginAnew 14 (24, .getfield 23, 3) rfl) ?_
    refine mx_iload_n (pc := 27) 1 (mx_dd dd_X8_beginAnew 15 (27, .iload_n 1, 1) rfl) rfl rfl ?_
    refine mx_lconst (pc := 28) (v := (0 : Int64)) (mx_dd dd_X8_beginAnew 16 (28, .lconst 0, 1) rfl) (by decide) ?_
    obtain ⟨g8, P⟩ := P
    obtain ⟨g9, P⟩ := P
    refine mx_last (pc := 29) g8 g9 (mx_dd dd_X8_beginAnew 17 (29, .lastore, 1) rfl) ?_
    have P := P _ rfl
    refine mx_iinc (pc := 30) 1 (mx_dd dd_X8_beginAnew 18 (30, .iinc 1 1, 3) rfl) rfl (mx_kadd (by decide : Int32.ofInt 1 = (1 : Int32))) (by decide) (lv' := [(1, _), (0, _)]) rfl ?_
    refine mx_goto (pc := 33) 18 (mx_dd dd_X8_beginAnew 19 (33, .goto (-15), 3) rfl) rfl ?_
    refine mx_sel [1, 0] rfl ?_
    exact P
theorem b_X8_prepare {d : Nat} {h : mxH} {Q : mxRes → mxH → Prop} (x0 : Nat)
    (P : hpK h x0 = 8 ∧ ∀ h1 : mxH, h1 = hsI h x0 9 (0 : Int32) → ∀ h2 : mxH, h2 = hsI h1 x0 8 (0 : Int32) → ∀ h3 : mxH, h3 = hsI h2 x0 10 (0 : Int32) → ∀ h4 : mxH, h4 = hsI h3 x0 12 (0 : Int32) → ∀ h5 : mxH, h5 = hsR h4 x0 13 none → ∀ h6 : mxH, h6 = hsI h5 x0 14 (0 : Int32) → Q (.inl none) h6) : mx_SM mY_X8_prepare d [.ref x0] h Q := by
  refine mx_SM_of (by decide) (Nat.le_of_ble_eq_true rfl) ?_
  show mx_SX mY_X8_prepare d 0 [(0, .ref x0)] [] h Q
  refine mx_aload_n (pc := 0) 0 (mx_dd dd_X8_prepare 0 (0, .aload_n 0, 1) rfl) rfl rfl ?_
  refine mx_iconst (pc := 1) (v := (0 : Int32)) (mx_dd dd_X8_prepare 1 (1, .iconst 0, 1) rfl) (by decide) ?_
  obtain ⟨g1, P⟩ := P
  refine mx_putI (pc := 2) mx_fl_X8_64 g1 rfl (.inl rfl) rfl rfl (mx_dd dd_X8_prepare 2 (2, .putfield 64, 3) rfl) ?_
  have P := P _ rfl
  refine mx_aload_n (pc := 5) 0 (mx_dd dd_X8_prepare 3 (5, .aload_n 0, 1) rfl) rfl rfl ?_
  refine mx_iconst (pc := 6) (v := (0 : Int32)) (mx_dd dd_X8_prepare 4 (6, .iconst 0, 1) rfl) (by decide) ?_
  refine mx_putI (pc := 7) mx_fl_X8_67 g1 rfl (.inl rfl) rfl rfl (mx_dd dd_X8_prepare 5 (7, .putfield 67, 3) rfl) ?_
  have P := P _ rfl
  refine mx_aload_n (pc := 10) 0 (mx_dd dd_X8_prepare 6 (10, .aload_n 0, 1) rfl) rfl rfl ?_
  refine mx_iconst (pc := 11) (v := (0 : Int32)) (mx_dd dd_X8_prepare 7 (11, .iconst 0, 1) rfl) (by decide) ?_
  refine mx_putI (pc := 12) mx_fl_X8_70 g1 rfl (.inl rfl) rfl rfl (mx_dd dd_X8_prepare 8 (12, .putfield 70, 3) rfl) ?_
  have P := P _ rfl
  refine mx_aload_n (pc := 15) 0 (mx_dd dd_X8_prepare 9 (15, .aload_n 0, 1) rfl) rfl rfl ?_
  refine mx_iconst (pc := 16) (v := (0 : Int32)) (mx_dd dd_X8_prepare 10 (16, .iconst 0, 1) rfl) (by decide) ?_
  refine mx_putI (pc := 17) mx_fl_X8_73 g1 rfl (.inl rfl) rfl rfl (mx_dd dd_X8_prepare 11 (17, .putfield 73, 3) rfl) ?_
  have P := P _ rfl
  refine mx_aload_n (pc := 20) 0 (mx_dd dd_X8_prepare 12 (20, .aload_n 0, 1) rfl) rfl rfl ?_
  refine mx_null (pc := 21) (mx_dd dd_X8_prepare 13 (21, .aconst_null, 1) rfl) ?_
  refine mx_putRn (pc := 22) mx_fl_X8_76 g1 rfl (.inl rfl) (mx_dd dd_X8_prepare 14 (22, .putfield 76, 3) rfl) ?_
  have P := P _ rfl
  refine mx_aload_n (pc := 25) 0 (mx_dd dd_X8_prepare 15 (25, .aload_n 0, 1) rfl) rfl rfl ?_
  refine mx_iconst (pc := 26) (v := (0 : Int32)) (mx_dd dd_X8_prepare 16 (26, .iconst 0, 1) rfl) (by decide) ?_
  refine mx_putI (pc := 27) mx_fl_X8_80 g1 rfl (.inl rfl) rfl rfl (mx_dd dd_X8_prepare 17 (27, .putfield 80, 3) rfl) ?_
  have P := P _ rfl
  exact mx_return (pc := 30) (mx_dd dd_X8_prepare 18 (30, .return_, 1) rfl) rfl P
theorem b_X8_inheritFrom {d : Nat} {h : mxH} {Q : mxRes → mxH → Prop} (x0 : Nat) (x1 : Nat)
    (P : 1 ≤ d ∧ hpK h x0 = 8 ∧ mx_SM mY_X8_prepare (d - 1) [.ref x0] h (mx_KV (fun h1 => hpK h1 x0 = 8 ∧ ∃ b1 : Nat, hpR h1 x0 0 = some b1 ∧ hpK h1 x1 = 8 ∧ ∃ b2 : Nat, hpR h1 x1 0 = some b2 ∧ hpK h1 b1 = 9 ∧ mx_SM mY_X9_copyFrom (d - 1) [.ref b1, .ref b2] h1 (mx_KV (fun h2 => hpK h2 x0 = 8 ∧ ∃ b3 : Nat, hpR h2 x0 1 = some b3 ∧ hpK h2 x1 = 8 ∧ ∃ b4 : Nat, hpR h2 x1 1 = some b4 ∧ hpK h2 b3 = 9 ∧ mx_SM mY_X9_copyFrom (d - 1) [.ref b3, .ref b4] h2 (mx_KV (fun h3 => hpK h3 x0 = 8 ∧ ∃ b5 : Nat, hpR h3 x0 3 = some b5 ∧ hpK h3 x1 = 8 ∧ ∃ b6 : Nat, hpR h3 x1 3 = some b6 ∧ hpK h3 b5 = 2 ∧ mx_SM mY_X2_copyFrom (d - 1) [.ref b5, .ref b6] h3 (mx_KV (fun h4 => mx_SX mY_X8_inheritFrom d 39 [(0, .ref x0), (1, .ref x1), (2, .int (0 : Int32))] [] h4 Q) (mx_XX mY_X8_inheritFrom Q))) (mx_XX mY_X8_inheritFrom Q))) (mx_XX mY_X8_inheritFrom Q))) (mx_XX mY_X8_inheritFrom Q))) : mx_SM mY_X8_inheritFrom d [.ref x0, .ref x1] h Q := by
  refine mx_SM_of (by decide) (Nat.le_of_ble_eq_true rfl) ?_
  show mx_SX mY_X8_inheritFrom d 0 [(0, .ref x0), (1, .ref x1)] [] h Q
  refine mx_aload_n (pc := 0) 0 (mx_dd dd_X8_inheritFrom_0 0 (0, .aload_n 0, 1) rfl) rfl rfl ?_
  obtain ⟨g1, P⟩ := P
  obtain ⟨g2, P⟩ := P
  refine mx_cVV (pc := 1) (Y := mY_X8_prepare) (As := []) mx_ml_X8_61 mx_y_X8_prepare rfl g2 (by decide) rfl (by decide) rfl (mx_dd dd_X8_inheritFrom_0 1 (1, .invokevirtual 61, 3) rfl) g1 (by decide) P (fun h1 P => ?_)
  refine mx_aload_n (pc := 4) 0 (mx_dd dd_X8_inheritFrom_0 2 (4, .aload_n 0, 1) rfl) rfl rfl ?_
  obtain ⟨g3, P⟩ := P
  obtain ⟨b1, g4, P⟩ := P
  refine mx_getR (pc := 5) mx_fl_X8_16 g3 rfl g4 (mx_dd dd_X8_inheritFrom_0 3 (5, .getfield 16, 3) rfl) ?_
  refine mx_aload_n (pc := 8) 1 (mx_dd dd_X8_inheritFrom_0 4 (8, .aload_n 1, 1) rfl) rfl rfl ?_
  obtain ⟨g5, P⟩ := P
  obtain ⟨b2, g6, P⟩ := P
  refine mx_getR (pc := 9) mx_fl_X8_16 g5 rfl g6 (mx_dd dd_X8_inheritFrom_0 5 (9, .getfield 16, 3) rfl) ?_
  obtain ⟨g7, P⟩ := P
  refine mx_cVV (pc := 12) (Y := mY_X9_copyFrom) (As := [.ref b2]) mx_ml_X8_83 mx_y_X9_copyFrom rfl g7 (by decide) rfl (by decide) rfl (mx_dd dd_X8_inheritFrom_0 6 (12, .invokevirtual 83, 3) rfl) g1 (by decide) P (fun h2 P => ?_)
  refine mx_aload_n (pc := 15) 0 (mx_dd dd_X8_inheritFrom_0 7 (15, .aload_n 0, 1) rfl) rfl rfl ?_
  obtain ⟨g8, P⟩ := P
  obtain ⟨b3, g9, P⟩ := P
  refine mx_getR (pc := 16) mx_fl_X8_20 g8 rfl g9 (mx_dd dd_X8_inheritFrom_0 8 (16, .getfield 20, 3) rfl) ?_
  refine mx_aload_n (pc := 19) 1 (mx_dd dd_X8_inheritFrom_0 9 (19, .aload_n 1, 1) rfl) rfl rfl ?_
  obtain ⟨g10, P⟩ := P
  obtain ⟨b4, g11, P⟩ := P
  refine mx_getR (pc := 20) mx_fl_X8_20 g10 rfl g11 (mx_dd dd_X8_inheritFrom_0 10 (20, .getfield 20, 3) rfl) ?_
  obtain ⟨g12, P⟩ := P
  refine mx_cVV (pc := 23) (Y := mY_X9_copyFrom) (As := [.ref b4]) mx_ml_X8_83 mx_y_X9_copyFrom rfl g12 (by decide) rfl (by decide) rfl (mx_dd dd_X8_inheritFrom_0 11 (23, .invokevirtual 83, 3) rfl) g1 (by decide) P (fun h3 P => ?_)
  refine mx_aload_n (pc := 26) 0 (mx_dd dd_X8_inheritFrom_0 12 (26, .aload_n 0, 1) rfl) rfl rfl ?_
  obtain ⟨g13, P⟩ := P
  obtain ⟨b5, g14, P⟩ := P
  refine mx_getR (pc := 27) mx_fl_X8_32 g13 rfl g14 (mx_dd dd_X8_inheritFrom_0 13 (27, .getfield 32, 3) rfl) ?_
  refine mx_aload_n (pc := 30) 1 (mx_dd dd_X8_inheritFrom_0 14 (30, .aload_n 1, 1) rfl) rfl rfl ?_
  obtain ⟨g15, P⟩ := P
  obtain ⟨b6, g16, P⟩ := P
  refine mx_getR (pc := 31) mx_fl_X8_32 g15 rfl g16 (mx_dd dd_X8_inheritFrom_0 15 (31, .getfield 32, 3) rfl) ?_
  obtain ⟨g17, P⟩ := P
  refine mx_cVV (pc := 34) (Y := mY_X2_copyFrom) (As := [.ref b6]) mx_ml_X8_87 mx_y_X2_copyFrom rfl g17 (by decide) rfl (by decide) rfl (mx_dd dd_X8_inheritFrom_0 16 (34, .invokevirtual 87, 3) rfl) g1 (by decide) P (fun h4 P => ?_)
  refine mx_iconst (pc := 37) (v := (0 : Int32)) (mx_dd dd_X8_inheritFrom_0 17 (37, .iconst 0, 1) rfl) (by decide) ?_
  refine mx_istore_n (pc := 38) (mx_dd dd_X8_inheritFrom_0 18 (38, .istore_n 2, 1) rfl) rfl (by decide) (lv' := [(2, _), (0, _), (1, _)]) rfl ?_
  refine mx_sel [1, 2, 0] rfl ?_
  exact P
theorem b_X8_inheritFrom_39 {d : Nat} {h : mxH} {Q : mxRes → mxH → Prop} (x0 : Nat) (x1 : Nat) (x2 : Int32)
    (P : (((4 : Int32) ≤ x2 → hpK h x1 = 8 ∧ hpK h x0 = 8 ∧ (hpI h x1 4 = 0 ∨ hpI h x1 4 = 1) ∧ ∀ h1 : mxH, h1 = hsI h x0 4 (hpI h x1 4) → (hpI h1 x1 5 = 0 ∨ hpI h1 x1 5 = 1) ∧ ∀ h2 : mxH, h2 = hsI h1 x0 5 (hpI h1 x1 5) → ∀ h3 : mxH, h3 = hsI h2 x0 6 (hpI h2 x1 6) → ∀ h4 : mxH, h4 = hsI h3 x0 7 ((hpI h3 x1 7) + (1 : Int32)) → ∀ h5 : mxH, h5 = hsI h4 x0 9 (hpI h4 x1 8) → ∀ h6 : mxH, h6 = hsI h5 x0 8 (hpI h5 x1 8) → Q (.inl none) h6) ∧ (¬ (4 : Int32) ≤ x2 → hpK h x0 = 8 ∧ ∃ b1 : Nat, hpR h x0 2 = some b1 ∧ hpK h x1 = 8 ∧ ∃ b2 : Nat, hpR h x1 2 = some b2 ∧ hpK h b2 = 15 ∧ vp_in x2 (hpZ h b2) ∧ ((¬ (lg_cmp (hpL h b2 x2.toNatClampNeg) (-2 : Int64)) = 0 → hpK h b1 = 15 ∧ vp_in x2 (hpZ h b1) ∧ ∀ h7 : mxH, h7 = hsL h b1 x2.toNatClampNeg (0 : Int64) → mx_SX mY_X8_inheritFrom d 39 [(0, .ref x0), (1, .ref x1), (2, .int (x2 + (1 : Int32)))] [] h7 Q) ∧ ((lg_cmp (hpL h b2 x2.toNatClampNeg) (-2 : Int64)) = 0 → hpK h b1 = 15 ∧ vp_in x2 (hpZ h b1) ∧ ∀ h8 : mxH, h8 = hsL h b1 x2.toNatClampNeg (-2 : Int64) → mx_SX mY_X8_inheritFrom d 39 [(0, .ref x0), (1, .ref x1), (2, .int (x2 + (1 : Int32)))] [] h8 Q))))) : mx_SX mY_X8_inheritFrom d 39 [(0, .ref x0), (1, .ref x1), (2, .int x2)] [] h Q := by
  refine mx_iload_n (pc := 39) 2 (mx_dd dd_X8_inheritFrom_0 19 (39, .iload_n 2, 1) rfl) rfl rfl ?_
  refine mx_iconst (pc := 40) (v := (4 : Int32)) (mx_dd dd_X8_inheritFrom_0 20 (40, .iconst 4, 1) rfl) (by decide) ?_
  refine mx_icmp_ge (pc := 41) 76 (mx_dd dd_X8_inheritFrom_0 21 (41, .if_icmp .ge 35, 3) rfl) rfl (fun c41 => ?_) (fun c41 => ?_)
  · have P := P.1 c41
    refine mx_aload_n (pc := 76) 0 (mx_dd dd_X8_inheritFrom_0 38 (76, .aload_n 0, 1) rfl) rfl rfl ?_
    refine mx_aload_n (pc := 77) 1 (mx_dd dd_X8_inheritFrom_0 39 (77, .aload_n 1, 1) rfl) rfl rfl ?_
    obtain ⟨g1, P⟩ := P
    refine mx_getI (pc := 78) mx_fl_X8_54 g1 rfl (mx_dd dd_X8_inheritFrom_1 0 (78, .getfield 54, 3) rfl) ?_
    obtain ⟨g2, P⟩ := P
    obtain ⟨g3, P⟩ := P
    refine mx_putI (pc := 81) mx_fl_X8_54 g2 rfl (.inl rfl) (mx_nb g3).1 (mx_nb g3).2 (mx_dd dd_X8_inheritFrom_1 1 (81, .putfield 54, 3) rfl) ?_
    have P := P _ rfl
    refine mx_aload_n (pc := 84) 0 (mx_dd dd_X8_inheritFrom_1 2 (84, .aload_n 0, 1) rfl) rfl rfl ?_
    refine mx_aload_n (pc := 85) 1 (mx_dd dd_X8_inheritFrom_1 3 (85, .aload_n 1, 1) rfl) rfl rfl ?_
    refine mx_getI (pc := 86) mx_fl_X8_92 g1 rfl (mx_dd dd_X8_inheritFrom_1 4 (86, .getfield 92, 3) rfl) ?_
    obtain ⟨g4, P⟩ := P
    refine mx_putI (pc := 89) mx_fl_X8_92 g2 rfl (.inl rfl) (mx_nb g4).1 (mx_nb g4).2 (mx_dd dd_X8_inheritFrom_1 5 (89, .putfield 92, 3) rfl) ?_
    have P := P _ rfl
    refine mx_aload_n (pc := 92) 0 (mx_dd dd_X8_inheritFrom_1 6 (92, .aload_n 0, 1) rfl) rfl rfl ?_
    refine mx_aload_n (pc := 93) 1 (mx_dd dd_X8_inheritFrom_1 7 (93, .aload_n 1, 1) rfl) rfl rfl ?_
    refine mx_getI (pc := 94) mx_fl_X8_58 g1 rfl (mx_dd dd_X8_inheritFrom_1 8 (94, .getfield 58, 3) rfl) ?_
    refine mx_putI (pc := 97) mx_fl_X8_58 g2 rfl (.inl rfl) rfl rfl (mx_dd dd_X8_inheritFrom_1 9 (97, .putfield 58, 3) rfl) ?_
    have P := P _ rfl
    refine mx_aload_n (pc := 100) 0 (mx_dd dd_X8_inheritFrom_1 10 (100, .aload_n 0, 1) rfl) rfl rfl ?_
    refine mx_aload_n (pc := 101) 1 (mx_dd dd_X8_inheritFrom_1 11 (101, .aload_n 1, 1) rfl) rfl rfl ?_
    refine mx_getI (pc := 102) mx_fl_X8_95 g1 rfl (mx_dd dd_X8_inheritFrom_1 12 (102, .getfield 95, 3) rfl) ?_
    refine mx_iconst (pc := 105) (v := (1 : Int32)) (mx_dd dd_X8_inheritFrom_1 13 (105, .iconst 1, 1) rfl) (by decide) ?_
    refine mx_iadd (pc := 106) (mx_dd dd_X8_inheritFrom_1 14 (106, .iadd, 1) rfl) ?_
    refine mx_putI (pc := 107) mx_fl_X8_95 g2 rfl (.inl rfl) rfl rfl (mx_dd dd_X8_inheritFrom_1 15 (107, .putfield 95, 3) rfl) ?_
    have P := P _ rfl
    refine mx_aload_n (pc := 110) 0 (mx_dd dd_X8_inheritFrom_1 16 (110, .aload_n 0, 1) rfl) rfl rfl ?_
    refine mx_aload_n (pc := 111) 1 (mx_dd dd_X8_inheritFrom_1 17 (111, .aload_n 1, 1) rfl) rfl rfl ?_
    refine mx_getI (pc := 112) mx_fl_X8_67 g1 rfl (mx_dd dd_X8_inheritFrom_1 18 (112, .getfield 67, 3) rfl) ?_
    refine mx_putI (pc := 115) mx_fl_X8_64 g2 rfl (.inl rfl) rfl rfl (mx_dd dd_X8_inheritFrom_1 19 (115, .putfield 64, 3) rfl) ?_
    have P := P _ rfl
    refine mx_aload_n (pc := 118) 0 (mx_dd dd_X8_inheritFrom_1 20 (118, .aload_n 0, 1) rfl) rfl rfl ?_
    refine mx_aload_n (pc := 119) 1 (mx_dd dd_X8_inheritFrom_1 21 (119, .aload_n 1, 1) rfl) rfl rfl ?_
    refine mx_getI (pc := 120) mx_fl_X8_67 g1 rfl (mx_dd dd_X8_inheritFrom_1 22 (120, .getfield 67, 3) rfl) ?_
    refine mx_putI (pc := 123) mx_fl_X8_67 g2 rfl (.inl rfl) rfl rfl (mx_dd dd_X8_inheritFrom_1 23 (123, .putfield 67, 3) rfl) ?_
    have P := P _ rfl
    exact mx_return (pc := 126) (mx_dd dd_X8_inheritFrom_1 24 (126, .return_, 1) rfl) rfl P
  · have P := P.2 c41
    refine mx_aload_n (pc := 44) 0 (mx_dd dd_X8_inheritFrom_0 22 (44, .aload_n 0, 1) rfl) rfl rfl ?_
    obtain ⟨g5, P⟩ := P
    obtain ⟨b1, g6, P⟩ := P
    refine mx_getR (pc := 45) mx_fl_X8_23 g5 rfl g6 (mx_dd dd_X8_inheritFrom_0 23 (45, .getfield 23, 3) rfl) ?_
    refine mx_iload_n (pc := 48) 2 (mx_dd dd_X8_inheritFrom_0 24 (48, .iload_n 2, 1) rfl) rfl rfl ?_
    refine mx_aload_n (pc := 49) 1 (mx_dd dd_X8_inheritFrom_0 25 (49, .aload_n 1, 1) rfl) rfl rfl ?_
    obtain ⟨g7, P⟩ := P
    obtain ⟨b2, g8, P⟩ := P
    refine mx_getR (pc := 50) mx_fl_X8_23 g7 rfl g8 (mx_dd dd_X8_inheritFrom_0 26 (50, .getfield 23, 3) rfl) ?_
    refine mx_iload_n (pc := 53) 2 (mx_dd dd_X8_inheritFrom_0 27 (53, .iload_n 2, 1) rfl) rfl rfl ?_
    obtain ⟨g9, P⟩ := P
    obtain ⟨g10, P⟩ := P
    refine mx_lald (pc := 54) g9 g10 (mx_dd dd_X8_inheritFrom_0 28 (54, .laload, 1) rfl) ?_
    refine mx_ldc2 (pc := 55) mx_cL_X8_90 (mx_dd dd_X8_inheritFrom_0 29 (55, .ldc2_w 90, 3) rfl) ?_
    refine mx_lcmp (pc := 58) (mx_dd dd_X8_inheritFrom_0 30 (58, .lcmp, 1) rfl) ?_
    refine mx_if_ne (pc := 59) 68 (mx_dd dd_X8_inheritFrom_0 31 (59, .ifCond .ne 9, 3) rfl) rfl (fun c59 => ?_) (fun c59 => ?_)
    · have P := P.1 c59
      refine mx_lconst (pc := 68) (v := (0 : Int64)) (mx_dd dd_X8_inheritFrom_0 34 (68, .lconst 0, 1) rfl) (by decide) ?_
      obtain ⟨g11, P⟩ := P
      obtain ⟨g12, P⟩ := P
      refine mx_last (pc := 69) g11 g12 (mx_dd dd_X8_inheritFrom_0 35 (69, .lastore, 1) rfl) ?_
      have P := P _ rfl
      refine mx_iinc (pc := 70) 2 (mx_dd dd_X8_inheritFrom_0 36 (70, .iinc 2 1, 3) rfl) rfl (mx_kadd (by decide : Int32.ofInt 1 = (1 : Int32))) (by decide) (lv' := [(2, _), (0, _), (1, _)]) rfl ?_
      refine mx_goto (pc := 73) 39 (mx_dd dd_X8_inheritFrom_0 37 (73, .goto (-34), 3) rfl) rfl ?_
      refine mx_sel [1, 2, 0] rfl ?_
      exact P
    · have P := P.2 c59
      refine mx_ldc2 (pc := 62) mx_cL_X8_90 (mx_dd dd_X8_inheritFrom_0 32 (62, .ldc2_w 90, 3) rfl) ?_
      refine mx_goto (pc := 65) 69 (mx_dd dd_X8_inheritFrom_0 33 (65, .goto 4, 3) rfl) rfl ?_
      obtain ⟨g13, P⟩ := P
      obtain ⟨g14, P⟩ := P
      refine mx_last (pc := 69) g13 g14 (mx_dd dd_X8_inheritFrom_0 35 (69, .lastore, 1) rfl) ?_
      have P := P _ rfl
      refine mx_iinc (pc := 70) 2 (mx_dd dd_X8_inheritFrom_0 36 (70, .iinc 2 1, 3) rfl) rfl (mx_kadd (by decide : Int32.ofInt 1 = (1 : Int32))) (by decide) (lv' := [(2, _), (0, _), (1, _)]) rfl ?_
      refine mx_goto (pc := 73) 39 (mx_dd dd_X8_inheritFrom_0 37 (73, .goto (-34), 3) rfl) rfl ?_
      refine mx_sel [1, 2, 0] rfl ?_
      exact P
theorem b_X8_copyFrom {d : Nat} {h : mxH} {Q : mxRes → mxH → Prop} (x0 : Nat) (x1 : Nat)
    (P : hpK h x0 = 8 ∧ ∃ b1 : Nat, hpR h x0 0 = some b1 ∧ hpK h x1 = 8 ∧ ∃ b2 : Nat, hpR h x1 0 = some b2 ∧ 1 ≤ d ∧ hpK h b1 = 9 ∧ mx_SM mY_X9_copyFrom (d - 1) [.ref b1, .ref b2] h (mx_KV (fun h1 => hpK h1 x0 = 8 ∧ ∃ b3 : Nat, hpR h1 x0 1 = some b3 ∧ hpK h1 x1 = 8 ∧ ∃ b4 : Nat, hpR h1 x1 1 = some b4 ∧ hpK h1 b3 = 9 ∧ mx_SM mY_X9_copyFrom (d - 1) [.ref b3, .ref b4] h1 (mx_KV (fun h2 => hpK h2 x0 = 8 ∧ ∃ b5 : Nat, hpR h2 x0 3 = some b5 ∧ hpK h2 x1 = 8 ∧ ∃ b6 : Nat, hpR h2 x1 3 = some b6 ∧ hpK h2 b5 = 2 ∧ mx_SM mY_X2_copyApart (d - 1) [.ref b5, .ref b6] h2 (mx_KV (fun h3 => hpK h3 x1 = 8 ∧ ∃ b7 : Nat, hpR h3 x1 2 = some b7 ∧ hpK h3 x0 = 8 ∧ ∃ b8 : Nat, hpR h3 x0 2 = some b8 ∧ hpK h3 b7 = 15 ∧ hpK h3 b8 = 15 ∧ (0 : Int32).toNatClampNeg + (4 : Int32).toNatClampNeg ≤ hpZ h3 b7 ∧ (0 : Int32).toNatClampNeg + (4 : Int32).toNatClampNeg ≤ hpZ h3 b8 ∧ ∀ h4 : mxH, h4 = hrL h3 b8 (va_cpy (hpL h3 b7) (hpL h3 b8) (0 : Int32).toNatClampNeg (0 : Int32).toNatClampNeg (4 : Int32).toNatClampNeg) → (hpI h4 x1 4 = 0 ∨ hpI h4 x1 4 = 1) ∧ ∀ h5 : mxH, h5 = hsI h4 x0 4 (hpI h4 x1 4) → ∀ h6 : mxH, h6 = hsI h5 x0 6 (hpI h5 x1 6) → ∀ h7 : mxH, h7 = hsI h6 x0 14 (hpI h6 x1 14) → ∃ b9 : Nat, hpR h7 x1 17 = some b9 ∧ ∃ b10 : Nat, hpR h7 x0 17 = some b10 ∧ hpK h7 b9 = 14 ∧ hpK h7 b10 = 14 ∧ (0 : Int32).toNatClampNeg + (8 : Int32).toNatClampNeg ≤ hpZ h7 b9 ∧ (0 : Int32).toNatClampNeg + (8 : Int32).toNatClampNeg ≤ hpZ h7 b10 ∧ ∀ h8 : mxH, h8 = hrI h7 b10 (va_cpy (hpI h7 b9) (hpI h7 b10) (0 : Int32).toNatClampNeg (0 : Int32).toNatClampNeg (8 : Int32).toNatClampNeg) → Q (.inl none) h8) (mx_XX mY_X8_copyFrom Q))) (mx_XX mY_X8_copyFrom Q))) (mx_XX mY_X8_copyFrom Q))) : mx_SM mY_X8_copyFrom d [.ref x0, .ref x1] h Q := by
  refine mx_SM_of (by decide) (Nat.le_of_ble_eq_true rfl) ?_
  show mx_SX mY_X8_copyFrom d 0 [(0, .ref x0), (1, .ref x1)] [] h Q
  refine mx_aload_n (pc := 0) 0 (mx_dd dd_X8_copyFrom 0 (0, .aload_n 0, 1) rfl) rfl rfl ?_
  obtain ⟨g1, P⟩ := P
  obtain ⟨b1, g2, P⟩ := P
  refine mx_getR (pc := 1) mx_fl_X8_16 g1 rfl g2 (mx_dd dd_X8_copyFrom 1 (1, .getfield 16, 3) rfl) ?_
  refine mx_aload_n (pc := 4) 1 (mx_dd dd_X8_copyFrom 2 (4, .aload_n 1, 1) rfl) rfl rfl ?_
  obtain ⟨g3, P⟩ := P
  obtain ⟨b2, g4, P⟩ := P
  refine mx_getR (pc := 5) mx_fl_X8_16 g3 rfl g4 (mx_dd dd_X8_copyFrom 3 (5, .getfield 16, 3) rfl) ?_
  obtain ⟨g5, P⟩ := P
  obtain ⟨g6, P⟩ := P
  refine mx_cVV (pc := 8) (Y := mY_X9_copyFrom) (As := [.ref b2]) mx_ml_X8_83 mx_y_X9_copyFrom rfl g6 (by decide) rfl (by decide) rfl (mx_dd dd_X8_copyFrom 4 (8, .invokevirtual 83, 3) rfl) g5 (by decide) P (fun h1 P => ?_)
  refine mx_aload_n (pc := 11) 0 (mx_dd dd_X8_copyFrom 5 (11, .aload_n 0, 1) rfl) rfl rfl ?_
  obtain ⟨g7, P⟩ := P
  obtain ⟨b3, g8, P⟩ := P
  refine mx_getR (pc := 12) mx_fl_X8_20 g7 rfl g8 (mx_dd dd_X8_copyFrom 6 (12, .getfield 20, 3) rfl) ?_
  refine mx_aload_n (pc := 15) 1 (mx_dd dd_X8_copyFrom 7 (15, .aload_n 1, 1) rfl) rfl rfl ?_
  obtain ⟨g9, P⟩ := P
  obtain ⟨b4, g10, P⟩ := P
  refine mx_getR (pc := 16) mx_fl_X8_20 g9 rfl g10 (mx_dd dd_X8_copyFrom 8 (16, .getfield 20, 3) rfl) ?_
  obtain ⟨g11, P⟩ := P
  refine mx_cVV (pc := 19) (Y := mY_X9_copyFrom) (As := [.ref b4]) mx_ml_X8_83 mx_y_X9_copyFrom rfl g11 (by decide) rfl (by decide) rfl (mx_dd dd_X8_copyFrom 9 (19, .invokevirtual 83, 3) rfl) g5 (by decide) P (fun h2 P => ?_)
  refine mx_aload_n (pc := 22) 0 (mx_dd dd_X8_copyFrom 10 (22, .aload_n 0, 1) rfl) rfl rfl ?_
  obtain ⟨g12, P⟩ := P
  obtain ⟨b5, g13, P⟩ := P
  refine mx_getR (pc := 23) mx_fl_X8_32 g12 rfl g13 (mx_dd dd_X8_copyFrom 11 (23, .getfield 32, 3) rfl) ?_
  refine mx_aload_n (pc := 26) 1 (mx_dd dd_X8_copyFrom 12 (26, .aload_n 1, 1) rfl) rfl rfl ?_
  obtain ⟨g14, P⟩ := P
  obtain ⟨b6, g15, P⟩ := P
  refine mx_getR (pc := 27) mx_fl_X8_32 g14 rfl g15 (mx_dd dd_X8_copyFrom 13 (27, .getfield 32, 3) rfl) ?_
  obtain ⟨g16, P⟩ := P
  refine mx_cVV (pc := 30) (Y := mY_X2_copyApart) (As := [.ref b6]) mx_ml_X8_98 mx_y_X2_copyApart rfl g16 (by decide) rfl (by decide) rfl (mx_dd dd_X8_copyFrom 14 (30, .invokevirtual 98, 3) rfl) g5 (by decide) P (fun h3 P => ?_)
  refine mx_aload_n (pc := 33) 1 (mx_dd dd_X8_copyFrom 15 (33, .aload_n 1, 1) rfl) rfl rfl ?_
  obtain ⟨g17, P⟩ := P
  obtain ⟨b7, g18, P⟩ := P
  refine mx_getR (pc := 34) mx_fl_X8_23 g17 rfl g18 (mx_dd dd_X8_copyFrom 16 (34, .getfield 23, 3) rfl) ?_
  refine mx_iconst (pc := 37) (v := (0 : Int32)) (mx_dd dd_X8_copyFrom 17 (37, .iconst 0, 1) rfl) (by decide) ?_
  refine mx_aload_n (pc := 38) 0 (mx_dd dd_X8_copyFrom 18 (38, .aload_n 0, 1) rfl) rfl rfl ?_
  obtain ⟨g19, P⟩ := P
  obtain ⟨b8, g20, P⟩ := P
  refine mx_getR (pc := 39) mx_fl_X8_23 g19 rfl g20 (mx_dd dd_X8_copyFrom 19 (39, .getfield 23, 3) rfl) ?_
  refine mx_iconst (pc := 42) (v := (0 : Int32)) (mx_dd dd_X8_copyFrom 20 (42, .iconst 0, 1) rfl) (by decide) ?_
  refine mx_iconst (pc := 43) (v := (4 : Int32)) (mx_dd dd_X8_copyFrom 21 (43, .iconst 4, 1) rfl) (by decide) ?_
  obtain ⟨g21, P⟩ := P
  obtain ⟨g22, P⟩ := P
  obtain ⟨g23, P⟩ := P
  obtain ⟨g24, P⟩ := P
  refine mx_copyL (pc := 44) g21 g22 (by decide) (by decide) (by decide) g23 g24 mx_cl_X8_101 mx_cpn mx_cps mx_cpi (by decide) (mx_dd dd_X8_copyFrom 22 (44, .invokestatic 101, 3) rfl) g5 ?_
  have P := P _ rfl
  refine mx_aload_n (pc := 47) 0 (mx_dd dd_X8_copyFrom 23 (47, .aload_n 0, 1) rfl) rfl rfl ?_
  refine mx_aload_n (pc := 48) 1 (mx_dd dd_X8_copyFrom 24 (48, .aload_n 1, 1) rfl) rfl rfl ?_
  refine mx_getI (pc := 49) mx_fl_X8_54 g17 rfl (mx_dd dd_X8_copyFrom 25 (49, .getfield 54, 3) rfl) ?_
  obtain ⟨g25, P⟩ := P
  refine mx_putI (pc := 52) mx_fl_X8_54 g19 rfl (.inl rfl) (mx_nb g25).1 (mx_nb g25).2 (mx_dd dd_X8_copyFrom 26 (52, .putfield 54, 3) rfl) ?_
  have P := P _ rfl
  refine mx_aload_n (pc := 55) 0 (mx_dd dd_X8_copyFrom 27 (55, .aload_n 0, 1) rfl) rfl rfl ?_
  refine mx_aload_n (pc := 56) 1 (mx_dd dd_X8_copyFrom 28 (56, .aload_n 1, 1) rfl) rfl rfl ?_
  refine mx_getI (pc := 57) mx_fl_X8_58 g17 rfl (mx_dd dd_X8_copyFrom 29 (57, .getfield 58, 3) rfl) ?_
  refine mx_putI (pc := 60) mx_fl_X8_58 g19 rfl (.inl rfl) rfl rfl (mx_dd dd_X8_copyFrom 30 (60, .putfield 58, 3) rfl) ?_
  have P := P _ rfl
  refine mx_aload_n (pc := 63) 0 (mx_dd dd_X8_copyFrom 31 (63, .aload_n 0, 1) rfl) rfl rfl ?_
  refine mx_aload_n (pc := 64) 1 (mx_dd dd_X8_copyFrom 32 (64, .aload_n 1, 1) rfl) rfl rfl ?_
  refine mx_getI (pc := 65) mx_fl_X8_80 g17 rfl (mx_dd dd_X8_copyFrom 33 (65, .getfield 80, 3) rfl) ?_
  refine mx_putI (pc := 68) mx_fl_X8_80 g19 rfl (.inl rfl) rfl rfl (mx_dd dd_X8_copyFrom 34 (68, .putfield 80, 3) rfl) ?_
  have P := P _ rfl
  refine mx_aload_n (pc := 71) 1 (mx_dd dd_X8_copyFrom 35 (71, .aload_n 1, 1) rfl) rfl rfl ?_
  obtain ⟨b9, g26, P⟩ := P
  refine mx_getR (pc := 72) mx_fl_X8_44 g17 rfl g26 (mx_dd dd_X8_copyFrom 36 (72, .getfield 44, 3) rfl) ?_
  refine mx_iconst (pc := 75) (v := (0 : Int32)) (mx_dd dd_X8_copyFrom 37 (75, .iconst 0, 1) rfl) (by decide) ?_
  refine mx_aload_n (pc := 76) 0 (mx_dd dd_X8_copyFrom 38 (76, .aload_n 0, 1) rfl) rfl rfl ?_
  obtain ⟨b10, g27, P⟩ := P
  refine mx_getR (pc := 77) mx_fl_X8_44 g19 rfl g27 (mx_dd dd_X8_copyFrom 39 (77, .getfield 44, 3) rfl) ?_
  refine mx_iconst (pc := 80) (v := (0 : Int32)) (mx_dd dd_X8_copyFrom 40 (80, .iconst 0, 1) rfl) (by decide) ?_
  refine mx_bipush (pc := 81) (v := (8 : Int32)) (mx_dd dd_X8_copyFrom 41 (81, .bipush 8, 2) rfl) (by decide) ?_
  obtain ⟨g28, P⟩ := P
  obtain ⟨g29, P⟩ := P
  obtain ⟨g30, P⟩ := P
  obtain ⟨g31, P⟩ := P
  refine mx_copyI (pc := 83) g28 g29 (by decide) (by decide) (by decide) (by decide) g30 g31 (fun q => absurd q (by decide)) mx_cl_X8_101 mx_cpn mx_cps mx_cpi (by decide) (mx_dd dd_X8_copyFrom 42 (83, .invokestatic 101, 3) rfl) g5 ?_
  have P := P _ rfl
  exact mx_return (pc := 86) (mx_dd dd_X8_copyFrom 43 (86, .return_, 1) rfl) rfl P
theorem b_X8_addJob {d : Nat} {h : mxH} {Q : mxRes → mxH → Prop} (x0 : Nat) (x1 : Nat) (x2 : Int32)
    (P : hpK h x0 = 8 ∧ (((hpI h x0 14) < 0 → Q (.inl (some (.int (0 : Int32)))) h) ∧ (¬ (hpI h x0 14) < 0 → (((hpI h x0 14) < (8 : Int32) → ∃ b1 : Nat, hpR h x0 15 = some b1 ∧ hpK h b1 = 19 ∧ vp_in (hpI h x0 14) (hpZ h b1) ∧ hpK h x1 = 8 ∧ ∀ h1 : mxH, h1 = hsR h b1 (hpI h x0 14).toNatClampNeg (some x1) → ∃ b2 : Nat, hpR h1 x0 16 = some b2 ∧ hpK h1 b2 = 14 ∧ vp_in (hpI h1 x0 14) (hpZ h1 b2) ∧ ∀ h2 : mxH, h2 = hsI h1 b2 (hpI h1 x0 14).toNatClampNeg x2 → ∃ b3 : Nat, hpR h2 x0 17 = some b3 ∧ hpK h2 b3 = 14 ∧ vp_in (hpI h2 x0 14) (hpZ h2 b3) ∧ ∀ h3 : mxH, h3 = hsI h2 b3 (hpI h2 x0 14).toNatClampNeg (-1 : Int32) → ∀ h4 : mxH, h4 = hsI h3 x0 14 ((hpI h3 x0 14) + (1 : Int32)) → Q (.inl (some (.int (1 : Int32)))) h4) ∧ (¬ (hpI h x0 14) < (8 : Int32) → Q (.inl (some (.int (0 : Int32)))) h))))) : mx_SM mY_X8_addJob d [.ref x0, .ref x1, .int x2] h Q := by
  refine mx_SM_of (by decide) (Nat.le_of_ble_eq_true rfl) ?_
  show mx_SX mY_X8_addJob d 0 [(0, .ref x0), (1, .ref x1), (2, .int x2)] [] h Q
  refine mx_aload_n (pc := 0) 0 (mx_dd dd_X8_addJob 0 (0, .aload_n 0, 1) rfl) rfl rfl ?_
  obtain ⟨g1, P⟩ := P
  refine mx_getI (pc := 1) mx_fl_X8_80 g1 rfl (mx_dd dd_X8_addJob 1 (1, .getfield 80, 3) rfl) ?_
  refine mx_if_lt (pc := 4) 16 (mx_dd dd_X8_addJob 2 (4, .ifCond .lt 12, 3) rfl) rfl (fun c4 => ?_) (fun c4 => ?_)
  · have P := P.1 c4
    refine mx_iconst (pc := 16) (v := (0 : Int32)) (mx_dd dd_X8_addJob 7 (16, .iconst 0, 1) rfl) (by decide) ?_
    exact mx_ireturn (pc := 17) (mx_dd dd_X8_addJob 8 (17, .ireturn, 1) rfl) rfl rfl P
  · have P := P.2 c4
    refine mx_aload_n (pc := 7) 0 (mx_dd dd_X8_addJob 3 (7, .aload_n 0, 1) rfl) rfl rfl ?_
    refine mx_getI (pc := 8) mx_fl_X8_80 g1 rfl (mx_dd dd_X8_addJob 4 (8, .getfield 80, 3) rfl) ?_
    refine mx_bipush (pc := 11) (v := (8 : Int32)) (mx_dd dd_X8_addJob 5 (11, .bipush 8, 2) rfl) (by decide) ?_
    refine mx_icmp_lt (pc := 13) 18 (mx_dd dd_X8_addJob 6 (13, .if_icmp .lt 5, 3) rfl) rfl (fun c13 => ?_) (fun c13 => ?_)
    · have P := P.1 c13
      refine mx_aload_n (pc := 18) 0 (mx_dd dd_X8_addJob 9 (18, .aload_n 0, 1) rfl) rfl rfl ?_
      obtain ⟨b1, g2, P⟩ := P
      refine mx_getR (pc := 19) mx_fl_X8_36 g1 rfl g2 (mx_dd dd_X8_addJob 10 (19, .getfield 36, 3) rfl) ?_
      refine mx_aload_n (pc := 22) 0 (mx_dd dd_X8_addJob 11 (22, .aload_n 0, 1) rfl) rfl rfl ?_
      refine mx_getI (pc := 23) mx_fl_X8_80 g1 rfl (mx_dd dd_X8_addJob 12 (23, .getfield 80, 3) rfl) ?_
      refine mx_aload_n (pc := 26) 1 (mx_dd dd_X8_addJob 13 (26, .aload_n 1, 1) rfl) rfl rfl ?_
      obtain ⟨g3, P⟩ := P
      obtain ⟨g4, P⟩ := P
      obtain ⟨g5, P⟩ := P
      refine mx_aast (pc := 27) g3 (by decide) g5 (by decide) rfl g4 (mx_dd dd_X8_addJob 14 (27, .aastore, 1) rfl) ?_
      have P := P _ rfl
      refine mx_aload_n (pc := 28) 0 (mx_dd dd_X8_addJob 15 (28, .aload_n 0, 1) rfl) rfl rfl ?_
      obtain ⟨b2, g6, P⟩ := P
      refine mx_getR (pc := 29) mx_fl_X8_40 g1 rfl g6 (mx_dd dd_X8_addJob 16 (29, .getfield 40, 3) rfl) ?_
      refine mx_aload_n (pc := 32) 0 (mx_dd dd_X8_addJob 17 (32, .aload_n 0, 1) rfl) rfl rfl ?_
      refine mx_getI (pc := 33) mx_fl_X8_80 g1 rfl (mx_dd dd_X8_addJob 18 (33, .getfield 80, 3) rfl) ?_
      refine mx_iload_n (pc := 36) 2 (mx_dd dd_X8_addJob 19 (36, .iload_n 2, 1) rfl) rfl rfl ?_
      obtain ⟨g7, P⟩ := P
      obtain ⟨g8, P⟩ := P
      refine mx_iast (pc := 37) g7 g8 (mx_dd dd_X8_addJob 20 (37, .iastore, 1) rfl) ?_
      have P := P _ rfl
      refine mx_aload_n (pc := 38) 0 (mx_dd dd_X8_addJob 21 (38, .aload_n 0, 1) rfl) rfl rfl ?_
      obtain ⟨b3, g9, P⟩ := P
      refine mx_getR (pc := 39) mx_fl_X8_44 g1 rfl g9 (mx_dd dd_X8_addJob 22 (39, .getfield 44, 3) rfl) ?_
      refine mx_aload_n (pc := 42) 0 (mx_dd dd_X8_addJob 23 (42, .aload_n 0, 1) rfl) rfl rfl ?_
      refine mx_getI (pc := 43) mx_fl_X8_80 g1 rfl (mx_dd dd_X8_addJob 24 (43, .getfield 80, 3) rfl) ?_
      refine mx_iconst (pc := 46) (v := (-1 : Int32)) (mx_dd dd_X8_addJob 25 (46, .iconst (-1), 1) rfl) (by decide) ?_
      obtain ⟨g10, P⟩ := P
      obtain ⟨g11, P⟩ := P
      refine mx_iast (pc := 47) g10 g11 (mx_dd dd_X8_addJob 26 (47, .iastore, 1) rfl) ?_
      have P := P _ rfl
      refine mx_aload_n (pc := 48) 0 (mx_dd dd_X8_addJob 27 (48, .aload_n 0, 1) rfl) rfl rfl ?_
      refine mx_dup (pc := 49) (mx_dd dd_X8_addJob 28 (49, .dup, 1) rfl) rfl ?_
      refine mx_getI (pc := 50) mx_fl_X8_80 g1 rfl (mx_dd dd_X8_addJob 29 (50, .getfield 80, 3) rfl) ?_
      refine mx_iconst (pc := 53) (v := (1 : Int32)) (mx_dd dd_X8_addJob 30 (53, .iconst 1, 1) rfl) (by decide) ?_
      refine mx_iadd (pc := 54) (mx_dd dd_X8_addJob 31 (54, .iadd, 1) rfl) ?_
      refine mx_putI (pc := 55) mx_fl_X8_80 g1 rfl (.inl rfl) rfl rfl (mx_dd dd_X8_addJob 32 (55, .putfield 80, 3) rfl) ?_
      have P := P _ rfl
      refine mx_iconst (pc := 58) (v := (1 : Int32)) (mx_dd dd_X8_addJob 33 (58, .iconst 1, 1) rfl) (by decide) ?_
      exact mx_ireturn (pc := 59) (mx_dd dd_X8_addJob 34 (59, .ireturn, 1) rfl) rfl rfl P
    · have P := P.2 c13
      refine mx_iconst (pc := 16) (v := (0 : Int32)) (mx_dd dd_X8_addJob 7 (16, .iconst 0, 1) rfl) (by decide) ?_
      exact mx_ireturn (pc := 17) (mx_dd dd_X8_addJob 8 (17, .ireturn, 1) rfl) rfl rfl P
theorem b_X8_isWaiting {d : Nat} {h : mxH} {Q : mxRes → mxH → Prop} (x0 : Nat) (x1 : Int32)
    (P : ((x1 < 0 → Q (.inl (some (.int (0 : Int32)))) h) ∧ (¬ x1 < 0 → hpK h x0 = 8 ∧ (((hpI h x0 14) ≤ x1 → Q (.inl (some (.int (0 : Int32)))) h) ∧ (¬ (hpI h x0 14) ≤ x1 → (((8 : Int32) ≤ x1 → Q (.inl (some (.int (0 : Int32)))) h) ∧ (¬ (8 : Int32) ≤ x1 → ∃ b1 : Nat, hpR h x0 15 = some b1 ∧ hpK h b1 = 19 ∧ vp_in x1 (hpZ h b1) ∧ ((hpR h b1 x1.toNatClampNeg = none → Q (.inl (some (.int (0 : Int32)))) h) ∧ (∀ b2 : Nat, hpR h b1 x1.toNatClampNeg = some b2 → Q (.inl (some (.int (1 : Int32)))) h))))))))) : mx_SM mY_X8_isWaiting d [.ref x0, .int x1] h Q := by
  refine mx_SM_of (by decide) (Nat.le_of_ble_eq_true rfl) ?_
  show mx_SX mY_X8_isWaiting d 0 [(0, .ref x0), (1, .int x1)] [] h Q
  refine mx_iload_n (pc := 0) 1 (mx_dd dd_X8_isWaiting 0 (0, .iload_n 1, 1) rfl) rfl rfl ?_
  refine mx_if_lt (pc := 1) 31 (mx_dd dd_X8_isWaiting 1 (1, .ifCond .lt 30, 3) rfl) rfl (fun c1 => ?_) (fun c1 => ?_)
  · have P := P.1 c1
    refine mx_iconst (pc := 31) (v := (0 : Int32)) (mx_dd dd_X8_isWaiting 16 (31, .iconst 0, 1) rfl) (by decide) ?_
    exact mx_ireturn (pc := 32) (mx_dd dd_X8_isWaiting 17 (32, .ireturn, 1) rfl) rfl rfl P
  · have P := P.2 c1
    refine mx_iload_n (pc := 4) 1 (mx_dd dd_X8_isWaiting 2 (4, .iload_n 1, 1) rfl) rfl rfl ?_
    refine mx_aload_n (pc := 5) 0 (mx_dd dd_X8_isWaiting 3 (5, .aload_n 0, 1) rfl) rfl rfl ?_
    obtain ⟨g1, P⟩ := P
    refine mx_getI (pc := 6) mx_fl_X8_80 g1 rfl (mx_dd dd_X8_isWaiting 4 (6, .getfield 80, 3) rfl) ?_
    refine mx_icmp_ge (pc := 9) 31 (mx_dd dd_X8_isWaiting 5 (9, .if_icmp .ge 22, 3) rfl) rfl (fun c9 => ?_) (fun c9 => ?_)
    · have P := P.1 c9
      refine mx_iconst (pc := 31) (v := (0 : Int32)) (mx_dd dd_X8_isWaiting 16 (31, .iconst 0, 1) rfl) (by decide) ?_
      exact mx_ireturn (pc := 32) (mx_dd dd_X8_isWaiting 17 (32, .ireturn, 1) rfl) rfl rfl P
    · have P := P.2 c9
      refine mx_iload_n (pc := 12) 1 (mx_dd dd_X8_isWaiting 6 (12, .iload_n 1, 1) rfl) rfl rfl ?_
      refine mx_bipush (pc := 13) (v := (8 : Int32)) (mx_dd dd_X8_isWaiting 7 (13, .bipush 8, 2) rfl) (by decide) ?_
      refine mx_icmp_ge (pc := 15) 31 (mx_dd dd_X8_isWaiting 8 (15, .if_icmp .ge 16, 3) rfl) rfl (fun c15 => ?_) (fun c15 => ?_)
      · have P := P.1 c15
        refine mx_iconst (pc := 31) (v := (0 : Int32)) (mx_dd dd_X8_isWaiting 16 (31, .iconst 0, 1) rfl) (by decide) ?_
        exact mx_ireturn (pc := 32) (mx_dd dd_X8_isWaiting 17 (32, .ireturn, 1) rfl) rfl rfl P
      · have P := P.2 c15
        refine mx_aload_n (pc := 18) 0 (mx_dd dd_X8_isWaiting 9 (18, .aload_n 0, 1) rfl) rfl rfl ?_
        obtain ⟨b1, g2, P⟩ := P
        refine mx_getR (pc := 19) mx_fl_X8_36 g1 rfl g2 (mx_dd dd_X8_isWaiting 10 (19, .getfield 36, 3) rfl) ?_
        refine mx_iload_n (pc := 22) 1 (mx_dd dd_X8_isWaiting 11 (22, .iload_n 1, 1) rfl) rfl rfl ?_
        obtain ⟨g3, P⟩ := P
        obtain ⟨g4, P⟩ := P
        refine mx_aaldO (pc := 23) g3 (by decide) g4 (mx_dd dd_X8_isWaiting 12 (23, .aaload, 1) rfl) ?_
        refine mx_ifnullO (pc := 24) 31 (mx_dd dd_X8_isWaiting 13 (24, .ifnull 7, 3) rfl) rfl (fun c24 => ?_) (fun b2 g5 => ?_)
        · have P := P.1 c24
          refine mx_iconst (pc := 31) (v := (0 : Int32)) (mx_dd dd_X8_isWaiting 16 (31, .iconst 0, 1) rfl) (by decide) ?_
          exact mx_ireturn (pc := 32) (mx_dd dd_X8_isWaiting 17 (32, .ireturn, 1) rfl) rfl rfl P
        · have P := P.2 b2 g5
          refine mx_iconst (pc := 27) (v := (1 : Int32)) (mx_dd dd_X8_isWaiting 14 (27, .iconst 1, 1) rfl) (by decide) ?_
          refine mx_goto (pc := 28) 32 (mx_dd dd_X8_isWaiting 15 (28, .goto 4, 3) rfl) rfl ?_
          exact mx_ireturn (pc := 32) (mx_dd dd_X8_isWaiting 17 (32, .ireturn, 1) rfl) rfl rfl P
theorem b_X8_firstWaiting {d : Nat} {h : mxH} {Q : mxRes → mxH → Prop} (x0 : Nat)
    (P : mx_SX mY_X8_firstWaiting d 2 [(0, .ref x0), (1, .int (0 : Int32))] [] h Q) : mx_SM mY_X8_firstWaiting d [.ref x0] h Q := by
  refine mx_SM_of (by decide) (Nat.le_of_ble_eq_true rfl) ?_
  show mx_SX mY_X8_firstWaiting d 0 [(0, .ref x0)] [] h Q
  refine mx_iconst (pc := 0) (v := (0 : Int32)) (mx_dd dd_X8_firstWaiting 0 (0, .iconst 0, 1) rfl) (by decide) ?_
  refine mx_istore_n (pc := 1) (mx_dd dd_X8_firstWaiting 1 (1, .istore_n 1, 1) rfl) rfl (by decide) (lv' := [(1, _), (0, _)]) rfl ?_
  refine mx_sel [1, 0] rfl ?_
  exact P
theorem b_X8_firstWaiting_2 {d : Nat} {h : mxH} {Q : mxRes → mxH → Prop} (x0 : Nat) (x1 : Int32)
    (P : hpK h x0 = 8 ∧ (((hpI h x0 14) ≤ x1 → Q (.inl (some (.int (-1 : Int32)))) h) ∧ (¬ (hpI h x0 14) ≤ x1 → 1 ≤ d ∧ mx_SM mY_X8_isWaiting (d - 1) [.ref x0, .int x1] h (mx_KI (fun v1 h1 => ((v1 = 0 → mx_SX mY_X8_firstWaiting d 2 [(0, .ref x0), (1, .int (x1 + (1 : Int32)))] [] h1 Q) ∧ (¬ v1 = 0 → Q (.inl (some (.int x1))) h1))) (mx_XX mY_X8_firstWaiting Q))))) : mx_SX mY_X8_firstWaiting d 2 [(0, .ref x0), (1, .int x1)] [] h Q := by
  refine mx_iload_n (pc := 2) 1 (mx_dd dd_X8_firstWaiting 2 (2, .iload_n 1, 1) rfl) rfl rfl ?_
  refine mx_aload_n (pc := 3) 0 (mx_dd dd_X8_firstWaiting 3 (3, .aload_n 0, 1) rfl) rfl rfl ?_
  obtain ⟨g1, P⟩ := P
  refine mx_getI (pc := 4) mx_fl_X8_80 g1 rfl (mx_dd dd_X8_firstWaiting 4 (4, .getfield 80, 3) rfl) ?_
  refine mx_icmp_ge (pc := 7) 26 (mx_dd dd_X8_firstWaiting 5 (7, .if_icmp .ge 19, 3) rfl) rfl (fun c7 => ?_) (fun c7 => ?_)
  · have P := P.1 c7
    refine mx_iconst (pc := 26) (v := (-1 : Int32)) (mx_dd dd_X8_firstWaiting 14 (26, .iconst (-1), 1) rfl) (by decide) ?_
    exact mx_ireturn (pc := 27) (mx_dd dd_X8_firstWaiting 15 (27, .ireturn, 1) rfl) rfl rfl P
  · have P := P.2 c7
    refine mx_aload_n (pc := 10) 0 (mx_dd dd_X8_firstWaiting 6 (10, .aload_n 0, 1) rfl) rfl rfl ?_
    refine mx_iload_n (pc := 11) 1 (mx_dd dd_X8_firstWaiting 7 (11, .iload_n 1, 1) rfl) rfl rfl ?_
    obtain ⟨g2, P⟩ := P
    refine mx_cVI (pc := 12) (Y := mY_X8_isWaiting) (As := [.int x1]) mx_ml_X8_107 mx_y_X8_isWaiting rfl g1 (by decide) rfl (by decide) rfl (mx_dd dd_X8_firstWaiting 8 (12, .invokevirtual 107, 3) rfl) g2 (by decide) P (fun v1 h1 P => ?_)
    refine mx_if_eq (pc := 15) 20 (mx_dd dd_X8_firstWaiting 9 (15, .ifCond .eq 5, 3) rfl) rfl (fun c15 => ?_) (fun c15 => ?_)
    · have P := P.1 c15
      refine mx_iinc (pc := 20) 1 (mx_dd dd_X8_firstWaiting 12 (20, .iinc 1 1, 3) rfl) rfl (mx_kadd (by decide : Int32.ofInt 1 = (1 : Int32))) (by decide) (lv' := [(1, _), (0, _)]) rfl ?_
      refine mx_goto (pc := 23) 2 (mx_dd dd_X8_firstWaiting 13 (23, .goto (-21), 3) rfl) rfl ?_
      refine mx_sel [1, 0] rfl ?_
      exact P
    · have P := P.2 c15
      refine mx_iload_n (pc := 18) 1 (mx_dd dd_X8_firstWaiting 10 (18, .iload_n 1, 1) rfl) rfl rfl ?_
      exact mx_ireturn (pc := 19) (mx_dd dd_X8_firstWaiting 11 (19, .ireturn, 1) rfl) rfl rfl P
theorem b_X8_takeJob {d : Nat} {h : mxH} {Q : mxRes → mxH → Prop} (x0 : Nat) (x1 : Int32)
    (P : 1 ≤ d ∧ hpK h x0 = 8 ∧ mx_SM mY_X8_isWaiting (d - 1) [.ref x0, .int x1] h (mx_KI (fun v1 h1 => ((¬ v1 = 0 → hpK h1 x0 = 8 ∧ ∃ b1 : Nat, hpR h1 x0 15 = some b1 ∧ hpK h1 b1 = 19 ∧ vp_in x1 (hpZ h1 b1) ∧ ∀ h2 : mxH, h2 = hsR h1 b1 x1.toNatClampNeg none → (∀ b, hpR h1 b1 x1.toNatClampNeg = some b → b < hpN h2) ∧ Q (.inl (some (va_rf (hpR h1 b1 x1.toNatClampNeg)))) h2) ∧ (v1 = 0 → Q (.inl (some (va_rf none))) h1))) (mx_XX mY_X8_takeJob Q))) : mx_SM mY_X8_takeJob d [.ref x0, .int x1] h Q := by
  refine mx_SM_of (by decide) (Nat.le_of_ble_eq_true rfl) ?_
  show mx_SX mY_X8_takeJob d 0 [(0, .ref x0), (1, .int x1)] [] h Q
  refine mx_aload_n (pc := 0) 0 (mx_dd dd_X8_takeJob 0 (0, .aload_n 0, 1) rfl) rfl rfl ?_
  refine mx_iload_n (pc := 1) 1 (mx_dd dd_X8_takeJob 1 (1, .iload_n 1, 1) rfl) rfl rfl ?_
  obtain ⟨g1, P⟩ := P
  obtain ⟨g2, P⟩ := P
  refine mx_cVI (pc := 2) (Y := mY_X8_isWaiting) (As := [.int x1]) mx_ml_X8_107 mx_y_X8_isWaiting rfl g2 (by decide) rfl (by decide) rfl (mx_dd dd_X8_takeJob 2 (2, .invokevirtual 107, 3) rfl) g1 (by decide) P (fun v1 h1 P => ?_)
  refine mx_if_ne (pc := 5) 10 (mx_dd dd_X8_takeJob 3 (5, .ifCond .ne 5, 3) rfl) rfl (fun c5 => ?_) (fun c5 => ?_)
  · have P := P.1 c5
    refine mx_aload_n (pc := 10) 0 (mx_dd dd_X8_takeJob 6 (10, .aload_n 0, 1) rfl) rfl rfl ?_
    obtain ⟨g3, P⟩ := P
    obtain ⟨b1, g4, P⟩ := P
    refine mx_getR (pc := 11) mx_fl_X8_36 g3 rfl g4 (mx_dd dd_X8_takeJob 7 (11, .getfield 36, 3) rfl) ?_
    refine mx_iload_n (pc := 14) 1 (mx_dd dd_X8_takeJob 8 (14, .iload_n 1, 1) rfl) rfl rfl ?_
    obtain ⟨g5, P⟩ := P
    obtain ⟨g6, P⟩ := P
    refine mx_aaldO (pc := 15) g5 (by decide) g6 (mx_dd dd_X8_takeJob 9 (15, .aaload, 1) rfl) ?_
    refine mx_astore_nO (pc := 16) (mx_dd dd_X8_takeJob 10 (16, .astore_n 2, 1) rfl) rfl (by decide) (lv' := [(2, _), (0, _), (1, _)]) rfl ?_
    refine mx_aload_n (pc := 17) 1 (mx_dd dd_X8_takeJob 11 (17, .aload_n 0, 1) rfl) rfl rfl ?_
    refine mx_getR (pc := 18) mx_fl_X8_36 g3 rfl g4 (mx_dd dd_X8_takeJob 12 (18, .getfield 36, 3) rfl) ?_
    refine mx_iload_n (pc := 21) 2 (mx_dd dd_X8_takeJob 13 (21, .iload_n 1, 1) rfl) rfl rfl ?_
    refine mx_null (pc := 22) (mx_dd dd_X8_takeJob 14 (22, .aconst_null, 1) rfl) ?_
    refine mx_aastN (pc := 23) g5 (by decide) g6 (mx_dd dd_X8_takeJob 15 (23, .aastore, 1) rfl) ?_
    have P := P _ rfl
    refine mx_aload_nO (pc := 24) 0 (mx_dd dd_X8_takeJob 16 (24, .aload_n 2, 1) rfl) rfl rfl ?_
    obtain ⟨g7, P⟩ := P
    exact mx_areturnO (pc := 25) (mx_dd dd_X8_takeJob 17 (25, .areturn, 1) rfl) rfl g7 P
  · have P := P.2 c5
    refine mx_null (pc := 8) (mx_dd dd_X8_takeJob 4 (8, .aconst_null, 1) rfl) ?_
    exact mx_areturnO (pc := 9) (mx_dd dd_X8_takeJob 5 (9, .areturn, 1) rfl) rfl (fun _ q => by cases q) P
theorem b_X8_startOfJob {d : Nat} {h : mxH} {Q : mxRes → mxH → Prop} (x0 : Nat) (x1 : Int32)
    (P : ((x1 < 0 → Q (.inl (some (.int (-1 : Int32)))) h) ∧ (¬ x1 < 0 → (((8 : Int32) ≤ x1 → Q (.inl (some (.int (-1 : Int32)))) h) ∧ (¬ (8 : Int32) ≤ x1 → hpK h x0 = 8 ∧ ∃ b1 : Nat, hpR h x0 16 = some b1 ∧ hpK h b1 = 14 ∧ vp_in x1 (hpZ h b1) ∧ Q (.inl (some (.int (hpI h b1 x1.toNatClampNeg)))) h))))) : mx_SM mY_X8_startOfJob d [.ref x0, .int x1] h Q := by
  refine mx_SM_of (by decide) (Nat.le_of_ble_eq_true rfl) ?_
  show mx_SX mY_X8_startOfJob d 0 [(0, .ref x0), (1, .int x1)] [] h Q
  refine mx_iload_n (pc := 0) 1 (mx_dd dd_X8_startOfJob 0 (0, .iload_n 1, 1) rfl) rfl rfl ?_
  refine mx_if_lt (pc := 1) 19 (mx_dd dd_X8_startOfJob 1 (1, .ifCond .lt 18, 3) rfl) rfl (fun c1 => ?_) (fun c1 => ?_)
  · have P := P.1 c1
    refine mx_iconst (pc := 19) (v := (-1 : Int32)) (mx_dd dd_X8_startOfJob 10 (19, .iconst (-1), 1) rfl) (by decide) ?_
    exact mx_ireturn (pc := 20) (mx_dd dd_X8_startOfJob 11 (20, .ireturn, 1) rfl) rfl rfl P
  · have P := P.2 c1
    refine mx_iload_n (pc := 4) 1 (mx_dd dd_X8_startOfJob 2 (4, .iload_n 1, 1) rfl) rfl rfl ?_
    refine mx_bipush (pc := 5) (v := (8 : Int32)) (mx_dd dd_X8_startOfJob 3 (5, .bipush 8, 2) rfl) (by decide) ?_
    refine mx_icmp_ge (pc := 7) 19 (mx_dd dd_X8_startOfJob 4 (7, .if_icmp .ge 12, 3) rfl) rfl (fun c7 => ?_) (fun c7 => ?_)
    · have P := P.1 c7
      refine mx_iconst (pc := 19) (v := (-1 : Int32)) (mx_dd dd_X8_startOfJob 10 (19, .iconst (-1), 1) rfl) (by decide) ?_
      exact mx_ireturn (pc := 20) (mx_dd dd_X8_startOfJob 11 (20, .ireturn, 1) rfl) rfl rfl P
    · have P := P.2 c7
      refine mx_aload_n (pc := 10) 0 (mx_dd dd_X8_startOfJob 5 (10, .aload_n 0, 1) rfl) rfl rfl ?_
      obtain ⟨g1, P⟩ := P
      obtain ⟨b1, g2, P⟩ := P
      refine mx_getR (pc := 11) mx_fl_X8_40 g1 rfl g2 (mx_dd dd_X8_startOfJob 6 (11, .getfield 40, 3) rfl) ?_
      refine mx_iload_n (pc := 14) 1 (mx_dd dd_X8_startOfJob 7 (14, .iload_n 1, 1) rfl) rfl rfl ?_
      obtain ⟨g3, P⟩ := P
      obtain ⟨g4, P⟩ := P
      refine mx_iald (pc := 15) g3 g4 (mx_dd dd_X8_startOfJob 8 (15, .iaload, 1) rfl) ?_
      refine mx_goto (pc := 16) 20 (mx_dd dd_X8_startOfJob 9 (16, .goto 4, 3) rfl) rfl ?_
      exact mx_ireturn (pc := 20) (mx_dd dd_X8_startOfJob 11 (20, .ireturn, 1) rfl) rfl rfl P
theorem b_X8_statusOfJob {d : Nat} {h : mxH} {Q : mxRes → mxH → Prop} (x0 : Nat) (x1 : Int32)
    (P : ((x1 < 0 → Q (.inl (some (.int (-1 : Int32)))) h) ∧ (¬ x1 < 0 → (((8 : Int32) ≤ x1 → Q (.inl (some (.int (-1 : Int32)))) h) ∧ (¬ (8 : Int32) ≤ x1 → hpK h x0 = 8 ∧ ∃ b1 : Nat, hpR h x0 17 = some b1 ∧ hpK h b1 = 14 ∧ vp_in x1 (hpZ h b1) ∧ Q (.inl (some (.int (hpI h b1 x1.toNatClampNeg)))) h))))) : mx_SM mY_X8_statusOfJob d [.ref x0, .int x1] h Q := by
  refine mx_SM_of (by decide) (Nat.le_of_ble_eq_true rfl) ?_
  show mx_SX mY_X8_statusOfJob d 0 [(0, .ref x0), (1, .int x1)] [] h Q
  refine mx_iload_n (pc := 0) 1 (mx_dd dd_X8_statusOfJob 0 (0, .iload_n 1, 1) rfl) rfl rfl ?_
  refine mx_if_lt (pc := 1) 19 (mx_dd dd_X8_statusOfJob 1 (1, .ifCond .lt 18, 3) rfl) rfl (fun c1 => ?_) (fun c1 => ?_)
  · have P := P.1 c1
    refine mx_iconst (pc := 19) (v := (-1 : Int32)) (mx_dd dd_X8_statusOfJob 10 (19, .iconst (-1), 1) rfl) (by decide) ?_
    exact mx_ireturn (pc := 20) (mx_dd dd_X8_statusOfJob 11 (20, .ireturn, 1) rfl) rfl rfl P
  · have P := P.2 c1
    refine mx_iload_n (pc := 4) 1 (mx_dd dd_X8_statusOfJob 2 (4, .iload_n 1, 1) rfl) rfl rfl ?_
    refine mx_bipush (pc := 5) (v := (8 : Int32)) (mx_dd dd_X8_statusOfJob 3 (5, .bipush 8, 2) rfl) (by decide) ?_
    refine mx_icmp_ge (pc := 7) 19 (mx_dd dd_X8_statusOfJob 4 (7, .if_icmp .ge 12, 3) rfl) rfl (fun c7 => ?_) (fun c7 => ?_)
    · have P := P.1 c7
      refine mx_iconst (pc := 19) (v := (-1 : Int32)) (mx_dd dd_X8_statusOfJob 10 (19, .iconst (-1), 1) rfl) (by decide) ?_
      exact mx_ireturn (pc := 20) (mx_dd dd_X8_statusOfJob 11 (20, .ireturn, 1) rfl) rfl rfl P
    · have P := P.2 c7
      refine mx_aload_n (pc := 10) 0 (mx_dd dd_X8_statusOfJob 5 (10, .aload_n 0, 1) rfl) rfl rfl ?_
      obtain ⟨g1, P⟩ := P
      obtain ⟨b1, g2, P⟩ := P
      refine mx_getR (pc := 11) mx_fl_X8_44 g1 rfl g2 (mx_dd dd_X8_statusOfJob 6 (11, .getfield 44, 3) rfl) ?_
      refine mx_iload_n (pc := 14) 1 (mx_dd dd_X8_statusOfJob 7 (14, .iload_n 1, 1) rfl) rfl rfl ?_
      obtain ⟨g3, P⟩ := P
      obtain ⟨g4, P⟩ := P
      refine mx_iald (pc := 15) g3 g4 (mx_dd dd_X8_statusOfJob 8 (15, .iaload, 1) rfl) ?_
      refine mx_goto (pc := 16) 20 (mx_dd dd_X8_statusOfJob 9 (16, .goto 4, 3) rfl) rfl ?_
      exact mx_ireturn (pc := 20) (mx_dd dd_X8_statusOfJob 11 (20, .ireturn, 1) rfl) rfl rfl P
theorem b_X8_keepJobStatus {d : Nat} {h : mxH} {Q : mxRes → mxH → Prop} (x0 : Nat) (x1 : Int32) (x2 : Int32)
    (P : ((x1 < 0 → Q (.inl none) h) ∧ (¬ x1 < 0 → (((8 : Int32) ≤ x1 → Q (.inl none) h) ∧ (¬ (8 : Int32) ≤ x1 → hpK h x0 = 8 ∧ ∃ b1 : Nat, hpR h x0 17 = some b1 ∧ hpK h b1 = 14 ∧ vp_in x1 (hpZ h b1) ∧ ∀ h1 : mxH, h1 = hsI h b1 x1.toNatClampNeg x2 → Q (.inl none) h1))))) : mx_SM mY_X8_keepJobStatus d [.ref x0, .int x1, .int x2] h Q := by
  refine mx_SM_of (by decide) (Nat.le_of_ble_eq_true rfl) ?_
  show mx_SX mY_X8_keepJobStatus d 0 [(0, .ref x0), (1, .int x1), (2, .int x2)] [] h Q
  refine mx_iload_n (pc := 0) 1 (mx_dd dd_X8_keepJobStatus 0 (0, .iload_n 1, 1) rfl) rfl rfl ?_
  refine mx_if_lt (pc := 1) 17 (mx_dd dd_X8_keepJobStatus 1 (1, .ifCond .lt 16, 3) rfl) rfl (fun c1 => ?_) (fun c1 => ?_)
  · have P := P.1 c1
    exact mx_return (pc := 17) (mx_dd dd_X8_keepJobStatus 10 (17, .return_, 1) rfl) rfl P
  · have P := P.2 c1
    refine mx_iload_n (pc := 4) 1 (mx_dd dd_X8_keepJobStatus 2 (4, .iload_n 1, 1) rfl) rfl rfl ?_
    refine mx_bipush (pc := 5) (v := (8 : Int32)) (mx_dd dd_X8_keepJobStatus 3 (5, .bipush 8, 2) rfl) (by decide) ?_
    refine mx_icmp_ge (pc := 7) 17 (mx_dd dd_X8_keepJobStatus 4 (7, .if_icmp .ge 10, 3) rfl) rfl (fun c7 => ?_) (fun c7 => ?_)
    · have P := P.1 c7
      exact mx_return (pc := 17) (mx_dd dd_X8_keepJobStatus 10 (17, .return_, 1) rfl) rfl P
    · have P := P.2 c7
      refine mx_aload_n (pc := 10) 0 (mx_dd dd_X8_keepJobStatus 5 (10, .aload_n 0, 1) rfl) rfl rfl ?_
      obtain ⟨g1, P⟩ := P
      obtain ⟨b1, g2, P⟩ := P
      refine mx_getR (pc := 11) mx_fl_X8_44 g1 rfl g2 (mx_dd dd_X8_keepJobStatus 6 (11, .getfield 44, 3) rfl) ?_
      refine mx_iload_n (pc := 14) 1 (mx_dd dd_X8_keepJobStatus 7 (14, .iload_n 1, 1) rfl) rfl rfl ?_
      refine mx_iload_n (pc := 15) 2 (mx_dd dd_X8_keepJobStatus 8 (15, .iload_n 2, 1) rfl) rfl rfl ?_
      obtain ⟨g3, P⟩ := P
      obtain ⟨g4, P⟩ := P
      refine mx_iast (pc := 16) g3 g4 (mx_dd dd_X8_keepJobStatus 9 (16, .iastore, 1) rfl) ?_
      have P := P _ rfl
      exact mx_return (pc := 17) (mx_dd dd_X8_keepJobStatus 10 (17, .return_, 1) rfl) rfl P
theorem b_X9_init {d : Nat} {h : mxH} {Q : mxRes → mxH → Prop} (x0 : Nat) (x1 : Int32)
    (P : 1 ≤ d ∧ ∃ n1 : Nat, ¬ (if x1 < (0 : Int32) then (0 : Int32) else x1) < 0 ∧ (if x1 < (0 : Int32) then (0 : Int32) else x1).toNatClampNeg = n1 ∧ n1 * 8 ≤ 536870912 ∧ ∀ (b1 : Nat) (h1 : mxH), b1 = hpN h → h1 = hnw h 15 n1 n1 → hpK h1 x0 = 9 ∧ ∀ h2 : mxH, h2 = hsR h1 x0 0 (some b1) → ∃ n2 : Nat, ¬ (if x1 < (0 : Int32) then (0 : Int32) else x1) < 0 ∧ (if x1 < (0 : Int32) then (0 : Int32) else x1).toNatClampNeg = n2 ∧ n2 * 4 ≤ 536870912 ∧ ∀ (b2 : Nat) (h3 : mxH), b2 = hpN h2 → h3 = hnw h2 14 n2 n2 → hpK h3 x0 = 9 ∧ ∀ h4 : mxH, h4 = hsR h3 x0 1 (some b2) → Q (.inl none) h4) : mx_SM mY_X9_init d [.ref x0, .int x1] h Q := by
  refine mx_SM_of (by decide) (Nat.le_of_ble_eq_true rfl) ?_
  show mx_SX mY_X9_init d 0 [(0, .ref x0), (1, .int x1)] [] h Q
  refine mx_aload_n (pc := 0) 0 (mx_dd dd_X9_init 0 (0, .aload_n 0, 1) rfl) rfl rfl ?_
  obtain ⟨g1, P⟩ := P
  refine mx_objInit (pc := 1) mx_oi_X9_3 mx_oii mx_oic (by decide) (mx_dd dd_X9_init 1 (1, .invokespecial 3, 3) rfl) g1 ?_
  refine mx_iload_n (pc := 4) 1 (mx_dd dd_X9_init 2 (4, .iload_n 1, 1) rfl) rfl rfl ?_
  refine mx_iconst (pc := 5) (v := (0 : Int32)) (mx_dd dd_X9_init 3 (5, .iconst 0, 1) rfl) (by decide) ?_
  refine mx_max (pc := 6) mx_mm_X9_9 mx_mmaxs mx_mini mx_mmaxc (by decide) (mx_dd dd_X9_init 4 (6, .invokestatic 9, 3) rfl) g1 ?_
  refine mx_istore_n (pc := 9) (mx_dd dd_X9_init 5 (9, .istore_n 2, 1) rfl) rfl (by decide) (lv' := [(2, _), (0, _), (1, _)]) rfl ?_
  refine mx_aload_n (pc := 10) 1 (mx_dd dd_X9_init 6 (10, .aload_n 0, 1) rfl) rfl rfl ?_
  refine mx_iload_n (pc := 11) 0 (mx_dd dd_X9_init 7 (11, .iload_n 2, 1) rfl) rfl rfl ?_
  obtain ⟨n1, g2, g3, g4, P⟩ := P
  refine mx_newa (pc := 12) (N := n1) (kd := 15) (by decide) rfl mx_ac_15 g2 g3 g4 (mx_dd dd_X9_init 8 (12, .newarray .long, 2) rfl) ?_
  have P := P _ _ rfl rfl
  obtain ⟨g5, P⟩ := P
  refine mx_putR (pc := 14) mx_fl_X9_15 g5 rfl (.inr ⟨rfl, rfl, rfl⟩) (mx_dd dd_X9_init 9 (14, .putfield 15, 3) rfl) ?_
  have P := P _ rfl
  refine mx_aload_n (pc := 17) 1 (mx_dd dd_X9_init 10 (17, .aload_n 0, 1) rfl) rfl rfl ?_
  refine mx_iload_n (pc := 18) 0 (mx_dd dd_X9_init 11 (18, .iload_n 2, 1) rfl) rfl rfl ?_
  obtain ⟨n2, g6, g7, g8, P⟩ := P
  refine mx_newa (pc := 19) (N := n2) (kd := 14) (by decide) rfl mx_ac_14 g6 g7 g8 (mx_dd dd_X9_init 12 (19, .newarray .int, 2) rfl) ?_
  have P := P _ _ rfl rfl
  obtain ⟨g9, P⟩ := P
  refine mx_putR (pc := 21) mx_fl_X9_21 g9 rfl (.inr ⟨rfl, rfl, rfl⟩) (mx_dd dd_X9_init 13 (21, .putfield 21, 3) rfl) ?_
  have P := P _ rfl
  exact mx_return (pc := 24) (mx_dd dd_X9_init 14 (24, .return_, 1) rfl) rfl P
theorem b_X9_find {d : Nat} {h : mxH} {Q : mxRes → mxH → Prop} (x0 : Nat) (x1 : Int64)
    (P : mx_SX mY_X9_find d 2 [(0, .ref x0), (1, .long x1), (3, .int (0 : Int32))] [] h Q) : mx_SM mY_X9_find d [.ref x0, .long x1] h Q := by
  refine mx_SM_of (by decide) (Nat.le_of_ble_eq_true rfl) ?_
  show mx_SX mY_X9_find d 0 [(0, .ref x0), (1, .long x1)] [] h Q
  refine mx_iconst (pc := 0) (v := (0 : Int32)) (mx_dd dd_X9_find 0 (0, .iconst 0, 1) rfl) (by decide) ?_
  refine mx_istore_n (pc := 1) (mx_dd dd_X9_find 1 (1, .istore_n 3, 1) rfl) rfl (by decide) (lv' := [(3, _), (0, _), (1, _)]) rfl ?_
  refine mx_sel [1, 2, 0] rfl ?_
  exact P
theorem b_X9_find_2 {d : Nat} {h : mxH} {Q : mxRes → mxH → Prop} (x0 : Nat) (x1 : Int64) (x3 : Int32)
    (P : hpK h x0 = 9 ∧ (((hpI h x0 2) ≤ x3 → Q (.inl (some (.int (-1 : Int32)))) h) ∧ (¬ (hpI h x0 2) ≤ x3 → ∃ b1 : Nat, hpR h x0 0 = some b1 ∧ hpK h b1 = 15 ∧ (((nI (hpZ h b1)) ≤ x3 → Q (.inl (some (.int (-1 : Int32)))) h) ∧ (¬ (nI (hpZ h b1)) ≤ x3 → vp_in x3 (hpZ h b1) ∧ ((¬ (lg_cmp (hpL h b1 x3.toNatClampNeg) x1) = 0 → mx_SX mY_X9_find d 2 [(0, .ref x0), (1, .long x1), (3, .int (x3 + (1 : Int32)))] [] h Q) ∧ ((lg_cmp (hpL h b1 x3.toNatClampNeg) x1) = 0 → Q (.inl (some (.int x3))) h))))))) : mx_SX mY_X9_find d 2 [(0, .ref x0), (1, .long x1), (3, .int x3)] [] h Q := by
  refine mx_iload_n (pc := 2) 2 (mx_dd dd_X9_find 2 (2, .iload_n 3, 1) rfl) rfl rfl ?_
  refine mx_aload_n (pc := 3) 0 (mx_dd dd_X9_find 3 (3, .aload_n 0, 1) rfl) rfl rfl ?_
  obtain ⟨g1, P⟩ := P
  refine mx_getI (pc := 4) mx_fl_X9_25 g1 rfl (mx_dd dd_X9_find 4 (4, .getfield 25, 3) rfl) ?_
  refine mx_icmp_ge (pc := 7) 38 (mx_dd dd_X9_find 5 (7, .if_icmp .ge 31, 3) rfl) rfl (fun c7 => ?_) (fun c7 => ?_)
  · have P := P.1 c7
    refine mx_iconst (pc := 38) (v := (-1 : Int32)) (mx_dd dd_X9_find 22 (38, .iconst (-1), 1) rfl) (by decide) ?_
    exact mx_ireturn (pc := 39) (mx_dd dd_X9_find 23 (39, .ireturn, 1) rfl) rfl rfl P
  · have P := P.2 c7
    refine mx_iload_n (pc := 10) 2 (mx_dd dd_X9_find 6 (10, .iload_n 3, 1) rfl) rfl rfl ?_
    refine mx_aload_n (pc := 11) 0 (mx_dd dd_X9_find 7 (11, .aload_n 0, 1) rfl) rfl rfl ?_
    obtain ⟨b1, g2, P⟩ := P
    refine mx_getR (pc := 12) mx_fl_X9_15 g1 rfl g2 (mx_dd dd_X9_find 8 (12, .getfield 15, 3) rfl) ?_
    obtain ⟨g3, P⟩ := P
    refine mx_alen (pc := 15) g3 (by decide) (mx_dd dd_X9_find 9 (15, .arraylength, 1) rfl) ?_
    refine mx_icmp_ge (pc := 16) 38 (mx_dd dd_X9_find 10 (16, .if_icmp .ge 22, 3) rfl) rfl (fun c16 => ?_) (fun c16 => ?_)
    · have P := P.1 c16
      refine mx_iconst (pc := 38) (v := (-1 : Int32)) (mx_dd dd_X9_find 22 (38, .iconst (-1), 1) rfl) (by decide) ?_
      exact mx_ireturn (pc := 39) (mx_dd dd_X9_find 23 (39, .ireturn, 1) rfl) rfl rfl P
    · have P := P.2 c16
      refine mx_aload_n (pc := 19) 0 (mx_dd dd_X9_find 11 (19, .aload_n 0, 1) rfl) rfl rfl ?_
      refine mx_getR (pc := 20) mx_fl_X9_15 g1 rfl g2 (mx_dd dd_X9_find 12 (20, .getfield 15, 3) rfl) ?_
      refine mx_iload_n (pc := 23) 2 (mx_dd dd_X9_find 13 (23, .iload_n 3, 1) rfl) rfl rfl ?_
      obtain ⟨g4, P⟩ := P
      refine mx_lald (pc := 24) g3 g4 (mx_dd dd_X9_find 14 (24, .laload, 1) rfl) ?_
      refine mx_lload_n (pc := 25) 1 (mx_dd dd_X9_find 15 (25, .lload_n 1, 1) rfl) rfl rfl ?_
      refine mx_lcmp (pc := 26) (mx_dd dd_X9_find 16 (26, .lcmp, 1) rfl) ?_
      refine mx_if_ne (pc := 27) 32 (mx_dd dd_X9_find 17 (27, .ifCond .ne 5, 3) rfl) rfl (fun c27 => ?_) (fun c27 => ?_)
      · have P := P.1 c27
        refine mx_iinc (pc := 32) 2 (mx_dd dd_X9_find 20 (32, .iinc 3 1, 3) rfl) rfl (mx_kadd (by decide : Int32.ofInt 1 = (1 : Int32))) (by decide) (lv' := [(3, _), (0, _), (1, _)]) rfl ?_
        refine mx_goto (pc := 35) 2 (mx_dd dd_X9_find 21 (35, .goto (-33), 3) rfl) rfl ?_
        refine mx_sel [1, 2, 0] rfl ?_
        exact P
      · have P := P.2 c27
        refine mx_iload_n (pc := 30) 2 (mx_dd dd_X9_find 18 (30, .iload_n 3, 1) rfl) rfl rfl ?_
        exact mx_ireturn (pc := 31) (mx_dd dd_X9_find 19 (31, .ireturn, 1) rfl) rfl rfl P
theorem b_X9_valueAt {d : Nat} {h : mxH} {Q : mxRes → mxH → Prop} (x0 : Nat) (x1 : Int32)
    (P : ((x1 < 0 → Q (.inl (some (.int (0 : Int32)))) h) ∧ (¬ x1 < 0 → hpK h x0 = 9 ∧ ∃ b1 : Nat, hpR h x0 1 = some b1 ∧ hpK h b1 = 14 ∧ (((nI (hpZ h b1)) ≤ x1 → Q (.inl (some (.int (0 : Int32)))) h) ∧ (¬ (nI (hpZ h b1)) ≤ x1 → vp_in x1 (hpZ h b1) ∧ Q (.inl (some (.int (hpI h b1 x1.toNatClampNeg)))) h))))) : mx_SM mY_X9_valueAt d [.ref x0, .int x1] h Q := by
  refine mx_SM_of (by decide) (Nat.le_of_ble_eq_true rfl) ?_
  show mx_SX mY_X9_valueAt d 0 [(0, .ref x0), (1, .int x1)] [] h Q
  refine mx_iload_n (pc := 0) 1 (mx_dd dd_X9_valueAt 0 (0, .iload_n 1, 1) rfl) rfl rfl ?_
  refine mx_if_lt (pc := 1) 22 (mx_dd dd_X9_valueAt 1 (1, .ifCond .lt 21, 3) rfl) rfl (fun c1 => ?_) (fun c1 => ?_)
  · have P := P.1 c1
    refine mx_iconst (pc := 22) (v := (0 : Int32)) (mx_dd dd_X9_valueAt 12 (22, .iconst 0, 1) rfl) (by decide) ?_
    exact mx_ireturn (pc := 23) (mx_dd dd_X9_valueAt 13 (23, .ireturn, 1) rfl) rfl rfl P
  · have P := P.2 c1
    refine mx_iload_n (pc := 4) 1 (mx_dd dd_X9_valueAt 2 (4, .iload_n 1, 1) rfl) rfl rfl ?_
    refine mx_aload_n (pc := 5) 0 (mx_dd dd_X9_valueAt 3 (5, .aload_n 0, 1) rfl) rfl rfl ?_
    obtain ⟨g1, P⟩ := P
    obtain ⟨b1, g2, P⟩ := P
    refine mx_getR (pc := 6) mx_fl_X9_21 g1 rfl g2 (mx_dd dd_X9_valueAt 4 (6, .getfield 21, 3) rfl) ?_
    obtain ⟨g3, P⟩ := P
    refine mx_alen (pc := 9) g3 (by decide) (mx_dd dd_X9_valueAt 5 (9, .arraylength, 1) rfl) ?_
    refine mx_icmp_ge (pc := 10) 22 (mx_dd dd_X9_valueAt 6 (10, .if_icmp .ge 12, 3) rfl) rfl (fun c10 => ?_) (fun c10 => ?_)
    · have P := P.1 c10
      refine mx_iconst (pc := 22) (v := (0 : Int32)) (mx_dd dd_X9_valueAt 12 (22, .iconst 0, 1) rfl) (by decide) ?_
      exact mx_ireturn (pc := 23) (mx_dd dd_X9_valueAt 13 (23, .ireturn, 1) rfl) rfl rfl P
    · have P := P.2 c10
      refine mx_aload_n (pc := 13) 0 (mx_dd dd_X9_valueAt 7 (13, .aload_n 0, 1) rfl) rfl rfl ?_
      refine mx_getR (pc := 14) mx_fl_X9_21 g1 rfl g2 (mx_dd dd_X9_valueAt 8 (14, .getfield 21, 3) rfl) ?_
      refine mx_iload_n (pc := 17) 1 (mx_dd dd_X9_valueAt 9 (17, .iload_n 1, 1) rfl) rfl rfl ?_
      obtain ⟨g4, P⟩ := P
      refine mx_iald (pc := 18) g3 g4 (mx_dd dd_X9_valueAt 10 (18, .iaload, 1) rfl) ?_
      refine mx_goto (pc := 19) 23 (mx_dd dd_X9_valueAt 11 (19, .goto 4, 3) rfl) rfl ?_
      exact mx_ireturn (pc := 23) (mx_dd dd_X9_valueAt 13 (23, .ireturn, 1) rfl) rfl rfl P
theorem b_X9_put {d : Nat} {h : mxH} {Q : mxRes → mxH → Prop} (x0 : Nat) (x1 : Int64) (x3 : Int32)
    (P : 1 ≤ d ∧ hpK h x0 = 9 ∧ mx_SM mY_X9_find (d - 1) [.ref x0, .long x1] h (mx_KI (fun v1 h1 => ((0 ≤ v1 → mx_SX mY_X9_put d 57 [(0, .ref x0), (3, .int x3), (4, .int v1)] [] h1 Q) ∧ (¬ 0 ≤ v1 → hpK h1 x0 = 9 ∧ (((hpI h1 x0 2) < 0 → Q (.inl (some (.int (0 : Int32)))) h1) ∧ (¬ (hpI h1 x0 2) < 0 → ∃ b1 : Nat, hpR h1 x0 0 = some b1 ∧ hpK h1 b1 = 15 ∧ (((hpI h1 x0 2) < (nI (hpZ h1 b1)) → vp_in (hpI h1 x0 2) (hpZ h1 b1) ∧ ∀ h2 : mxH, h2 = hsL h1 b1 (hpI h1 x0 2).toNatClampNeg x1 → ∀ h3 : mxH, h3 = hsI h2 x0 2 ((hpI h2 x0 2) + (1 : Int32)) → mx_SX mY_X9_put d 57 [(0, .ref x0), (3, .int x3), (4, .int (hpI h1 x0 2))] [] h3 Q) ∧ (¬ (hpI h1 x0 2) < (nI (hpZ h1 b1)) → Q (.inl (some (.int (0 : Int32)))) h1))))))) (mx_XX mY_X9_put Q))) : mx_SM mY_X9_put d [.ref x0, .long x1, .int x3] h Q := by
  refine mx_SM_of (by decide) (Nat.le_of_ble_eq_true rfl) ?_
  show mx_SX mY_X9_put d 0 [(0, .ref x0), (1, .long x1), (3, .int x3)] [] h Q
  refine mx_aload_n (pc := 0) 0 (mx_dd dd_X9_put 0 (0, .aload_n 0, 1) rfl) rfl rfl ?_
  refine mx_lload_n (pc := 1) 1 (mx_dd dd_X9_put 1 (1, .lload_n 1, 1) rfl) rfl rfl ?_
  obtain ⟨g1, P⟩ := P
  obtain ⟨g2, P⟩ := P
  refine mx_cVI (pc := 2) (Y := mY_X9_find) (As := [.long x1]) mx_ml_X9_29 mx_y_X9_find rfl g2 (by decide) rfl (by decide) rfl (mx_dd dd_X9_put 2 (2, .invokevirtual 29, 3) rfl) g1 (by decide) P (fun v1 h1 P => ?_)
  refine mx_istore (pc := 5) (mx_dd dd_X9_put 3 (5, .istore 4, 2) rfl) (by decide) (lv' := [(4, _), (0, _), (1, _), (3, _)]) rfl ?_
  refine mx_iload (pc := 7) 0 (mx_dd dd_X9_put 4 (7, .iload 4, 2) rfl) rfl ?_
  refine mx_if_ge (pc := 9) 57 (mx_dd dd_X9_put 5 (9, .ifCond .ge 48, 3) rfl) rfl (fun c9 => ?_) (fun c9 => ?_)
  · have P := P.1 c9
    refine mx_sel [1, 3, 0] rfl ?_
    exact P
  · have P := P.2 c9
    refine mx_aload_n (pc := 12) 1 (mx_dd dd_X9_put 6 (12, .aload_n 0, 1) rfl) rfl rfl ?_
    obtain ⟨g3, P⟩ := P
    refine mx_getI (pc := 13) mx_fl_X9_25 g3 rfl (mx_dd dd_X9_put 7 (13, .getfield 25, 3) rfl) ?_
    refine mx_if_lt (pc := 16) 31 (mx_dd dd_X9_put 8 (16, .ifCond .lt 15, 3) rfl) rfl (fun c16 => ?_) (fun c16 => ?_)
    · have P := P.1 c16
      refine mx_iconst (pc := 31) (v := (0 : Int32)) (mx_dd dd_X9_put 15 (31, .iconst 0, 1) rfl) (by decide) ?_
      exact mx_ireturn (pc := 32) (mx_dd dd_X9_put 16 (32, .ireturn, 1) rfl) rfl rfl P
    · have P := P.2 c16
      refine mx_aload_n (pc := 19) 1 (mx_dd dd_X9_put 9 (19, .aload_n 0, 1) rfl) rfl rfl ?_
      refine mx_getI (pc := 20) mx_fl_X9_25 g3 rfl (mx_dd dd_X9_put 10 (20, .getfield 25, 3) rfl) ?_
      refine mx_aload_n (pc := 23) 1 (mx_dd dd_X9_put 11 (23, .aload_n 0, 1) rfl) rfl rfl ?_
      obtain ⟨b1, g4, P⟩ := P
      refine mx_getR (pc := 24) mx_fl_X9_15 g3 rfl g4 (mx_dd dd_X9_put 12 (24, .getfield 15, 3) rfl) ?_
      obtain ⟨g5, P⟩ := P
      refine mx_alen (pc := 27) g5 (by decide) (mx_dd dd_X9_put 13 (27, .arraylength, 1) rfl) ?_
      refine mx_icmp_lt (pc := 28) 33 (mx_dd dd_X9_put 14 (28, .if_icmp .lt 5, 3) rfl) rfl (fun c28 => ?_) (fun c28 => ?_)
      · have P := P.1 c28
        refine mx_aload_n (pc := 33) 1 (mx_dd dd_X9_put 17 (33, .aload_n 0, 1) rfl) rfl rfl ?_
        refine mx_getI (pc := 34) mx_fl_X9_25 g3 rfl (mx_dd dd_X9_put 18 (34, .getfield 25, 3) rfl) ?_
        refine mx_istore (pc := 37) (mx_dd dd_X9_put 19 (37, .istore 4, 2) rfl) (by decide) (lv' := [(4, _), (0, _), (1, _), (3, _)]) rfl ?_
        refine mx_aload_n (pc := 39) 1 (mx_dd dd_X9_put 20 (39, .aload_n 0, 1) rfl) rfl rfl ?_
        refine mx_getR (pc := 40) mx_fl_X9_15 g3 rfl g4 (mx_dd dd_X9_put 21 (40, .getfield 15, 3) rfl) ?_
        refine mx_iload (pc := 43) 0 (mx_dd dd_X9_put 22 (43, .iload 4, 2) rfl) rfl ?_
        refine mx_lload_n (pc := 45) 2 (mx_dd dd_X9_put 23 (45, .lload_n 1, 1) rfl) rfl rfl ?_
        obtain ⟨g6, P⟩ := P
        refine mx_last (pc := 46) g5 g6 (mx_dd dd_X9_put 24 (46, .lastore, 1) rfl) ?_
        have P := P _ rfl
        refine mx_aload_n (pc := 47) 1 (mx_dd dd_X9_put 25 (47, .aload_n 0, 1) rfl) rfl rfl ?_
        refine mx_dup (pc := 48) (mx_dd dd_X9_put 26 (48, .dup, 1) rfl) rfl ?_
        refine mx_getI (pc := 49) mx_fl_X9_25 g3 rfl (mx_dd dd_X9_put 27 (49, .getfield 25, 3) rfl) ?_
        refine mx_iconst (pc := 52) (v := (1 : Int32)) (mx_dd dd_X9_put 28 (52, .iconst 1, 1) rfl) (by decide) ?_
        refine mx_iadd (pc := 53) (mx_dd dd_X9_put 29 (53, .iadd, 1) rfl) ?_
        refine mx_putI (pc := 54) mx_fl_X9_25 g3 rfl (.inl rfl) rfl rfl (mx_dd dd_X9_put 30 (54, .putfield 25, 3) rfl) ?_
        have P := P _ rfl
        refine mx_sel [1, 3, 0] rfl ?_
        exact P
      · have P := P.2 c28
        refine mx_iconst (pc := 31) (v := (0 : Int32)) (mx_dd dd_X9_put 15 (31, .iconst 0, 1) rfl) (by decide) ?_
        exact mx_ireturn (pc := 32) (mx_dd dd_X9_put 16 (32, .ireturn, 1) rfl) rfl rfl P
theorem b_X9_put_57 {d : Nat} {h : mxH} {Q : mxRes → mxH → Prop} (x0 : Nat) (x3 : Int32) (x4 : Int32)
    (P : hpK h x0 = 9 ∧ ∃ b1 : Nat, hpR h x0 1 = some b1 ∧ hpK h b1 = 14 ∧ (((nI (hpZ h b1)) ≤ x4 → Q (.inl (some (.int (1 : Int32)))) h) ∧ (¬ (nI (hpZ h b1)) ≤ x4 → vp_in x4 (hpZ h b1) ∧ ∀ h1 : mxH, h1 = hsI h b1 x4.toNatClampNeg x3 → Q (.inl (some (.int (1 : Int32)))) h1))) : mx_SX mY_X9_put d 57 [(0, .ref x0), (3, .int x3), (4, .int x4)] [] h Q := by
  refine mx_iload (pc := 57) 2 (mx_dd dd_X9_put 31 (57, .iload 4, 2) rfl) rfl ?_
  refine mx_aload_n (pc := 59) 0 (mx_dd dd_X9_put 32 (59, .aload_n 0, 1) rfl) rfl rfl ?_
  obtain ⟨g1, P⟩ := P
  obtain ⟨b1, g2, P⟩ := P
  refine mx_getR (pc := 60) mx_fl_X9_21 g1 rfl g2 (mx_dd dd_X9_put 33 (60, .getfield 21, 3) rfl) ?_
  obtain ⟨g3, P⟩ := P
  refine mx_alen (pc := 63) g3 (by decide) (mx_dd dd_X9_put 34 (63, .arraylength, 1) rfl) ?_
  refine mx_icmp_ge (pc := 64) 75 (mx_dd dd_X9_put 35 (64, .if_icmp .ge 11, 3) rfl) rfl (fun c64 => ?_) (fun c64 => ?_)
  · have P := P.1 c64
    refine mx_iconst (pc := 75) (v := (1 : Int32)) (mx_dd dd_X9_put 41 (75, .iconst 1, 1) rfl) (by decide) ?_
    exact mx_ireturn (pc := 76) (mx_dd dd_X9_put 42 (76, .ireturn, 1) rfl) rfl rfl P
  · have P := P.2 c64
    refine mx_aload_n (pc := 67) 0 (mx_dd dd_X9_put 36 (67, .aload_n 0, 1) rfl) rfl rfl ?_
    refine mx_getR (pc := 68) mx_fl_X9_21 g1 rfl g2 (mx_dd dd_X9_put 37 (68, .getfield 21, 3) rfl) ?_
    refine mx_iload (pc := 71) 2 (mx_dd dd_X9_put 38 (71, .iload 4, 2) rfl) rfl ?_
    refine mx_iload_n (pc := 73) 1 (mx_dd dd_X9_put 39 (73, .iload_n 3, 1) rfl) rfl rfl ?_
    obtain ⟨g4, P⟩ := P
    refine mx_iast (pc := 74) g3 g4 (mx_dd dd_X9_put 40 (74, .iastore, 1) rfl) ?_
    have P := P _ rfl
    refine mx_iconst (pc := 75) (v := (1 : Int32)) (mx_dd dd_X9_put 41 (75, .iconst 1, 1) rfl) (by decide) ?_
    exact mx_ireturn (pc := 76) (mx_dd dd_X9_put 42 (76, .ireturn, 1) rfl) rfl rfl P
theorem b_X9_copyFrom {d : Nat} {h : mxH} {Q : mxRes → mxH → Prop} (x0 : Nat) (x1 : Nat)
    (P : hpK h x0 = 9 ∧ ∀ h1 : mxH, h1 = hsI h x0 2 (0 : Int32) → mx_SX mY_X9_copyFrom d 7 [(0, .ref x0), (1, .ref x1), (2, .int (0 : Int32))] [] h1 Q) : mx_SM mY_X9_copyFrom d [.ref x0, .ref x1] h Q := by
  refine mx_SM_of (by decide) (Nat.le_of_ble_eq_true rfl) ?_
  show mx_SX mY_X9_copyFrom d 0 [(0, .ref x0), (1, .ref x1)] [] h Q
  refine mx_aload_n (pc := 0) 0 (mx_dd dd_X9_copyFrom 0 (0, .aload_n 0, 1) rfl) rfl rfl ?_
  refine mx_iconst (pc := 1) (v := (0 : Int32)) (mx_dd dd_X9_copyFrom 1 (1, .iconst 0, 1) rfl) (by decide) ?_
  obtain ⟨g1, P⟩ := P
  refine mx_putI (pc := 2) mx_fl_X9_25 g1 rfl (.inl rfl) rfl rfl (mx_dd dd_X9_copyFrom 2 (2, .putfield 25, 3) rfl) ?_
  have P := P _ rfl
  refine mx_iconst (pc := 5) (v := (0 : Int32)) (mx_dd dd_X9_copyFrom 3 (5, .iconst 0, 1) rfl) (by decide) ?_
  refine mx_istore_n (pc := 6) (mx_dd dd_X9_copyFrom 4 (6, .istore_n 2, 1) rfl) rfl (by decide) (lv' := [(2, _), (0, _), (1, _)]) rfl ?_
  refine mx_sel [1, 2, 0] rfl ?_
  exact P
theorem b_X9_copyFrom_7 {d : Nat} {h : mxH} {Q : mxRes → mxH → Prop} (x0 : Nat) (x1 : Nat) (x2 : Int32)
    (P : hpK h x1 = 9 ∧ (((hpI h x1 2) ≤ x2 → Q (.inl none) h) ∧ (¬ (hpI h x1 2) ≤ x2 → hpK h x0 = 9 ∧ ∃ b1 : Nat, hpR h x0 0 = some b1 ∧ hpK h b1 = 15 ∧ (((nI (hpZ h b1)) ≤ x2 → Q (.inl none) h) ∧ (¬ (nI (hpZ h b1)) ≤ x2 → ∃ b2 : Nat, hpR h x1 0 = some b2 ∧ hpK h b2 = 15 ∧ (((nI (hpZ h b2)) ≤ x2 → Q (.inl none) h) ∧ (¬ (nI (hpZ h b2)) ≤ x2 → vp_in x2 (hpZ h b2) ∧ vp_in x2 (hpZ h b1) ∧ ∀ h1 : mxH, h1 = hsL h b1 x2.toNatClampNeg (hpL h b2 x2.toNatClampNeg) → ∃ b3 : Nat, hpR h1 x0 1 = some b3 ∧ ∃ b4 : Nat, hpR h1 x1 1 = some b4 ∧ hpK h1 b4 = 14 ∧ vp_in x2 (hpZ h1 b4) ∧ hpK h1 b3 = 14 ∧ vp_in x2 (hpZ h1 b3) ∧ ∀ h2 : mxH, h2 = hsI h1 b3 x2.toNatClampNeg (hpI h1 b4 x2.toNatClampNeg) → ∀ h3 : mxH, h3 = hsI h2 x0 2 ((hpI h2 x0 2) + (1 : Int32)) → mx_SX mY_X9_copyFrom d 7 [(0, .ref x0), (1, .ref x1), (2, .int (x2 + (1 : Int32)))] [] h3 Q))))))) : mx_SX mY_X9_copyFrom d 7 [(0, .ref x0), (1, .ref x1), (2, .int x2)] [] h Q := by
  refine mx_iload_n (pc := 7) 2 (mx_dd dd_X9_copyFrom 5 (7, .iload_n 2, 1) rfl) rfl rfl ?_
  refine mx_aload_n (pc := 8) 1 (mx_dd dd_X9_copyFrom 6 (8, .aload_n 1, 1) rfl) rfl rfl ?_
  obtain ⟨g1, P⟩ := P
  refine mx_getI (pc := 9) mx_fl_X9_25 g1 rfl (mx_dd dd_X9_copyFrom 7 (9, .getfield 25, 3) rfl) ?_
  refine mx_icmp_ge (pc := 12) 73 (mx_dd dd_X9_copyFrom 8 (12, .if_icmp .ge 61, 3) rfl) rfl (fun c12 => ?_) (fun c12 => ?_)
  · have P := P.1 c12
    exact mx_return (pc := 73) (mx_dd dd_X9_copyFrom 43 (73, .return_, 1) rfl) rfl P
  · have P := P.2 c12
    refine mx_iload_n (pc := 15) 2 (mx_dd dd_X9_copyFrom 9 (15, .iload_n 2, 1) rfl) rfl rfl ?_
    refine mx_aload_n (pc := 16) 0 (mx_dd dd_X9_copyFrom 10 (16, .aload_n 0, 1) rfl) rfl rfl ?_
    obtain ⟨g2, P⟩ := P
    obtain ⟨b1, g3, P⟩ := P
    refine mx_getR (pc := 17) mx_fl_X9_15 g2 rfl g3 (mx_dd dd_X9_copyFrom 11 (17, .getfield 15, 3) rfl) ?_
    obtain ⟨g4, P⟩ := P
    refine mx_alen (pc := 20) g4 (by decide) (mx_dd dd_X9_copyFrom 12 (20, .arraylength, 1) rfl) ?_
    refine mx_icmp_ge (pc := 21) 73 (mx_dd dd_X9_copyFrom 13 (21, .if_icmp .ge 52, 3) rfl) rfl (fun c21 => ?_) (fun c21 => ?_)
    · have P := P.1 c21
      exact mx_return (pc := 73) (mx_dd dd_X9_copyFrom 43 (73, .return_, 1) rfl) rfl P
    · have P := P.2 c21
      refine mx_iload_n (pc := 24) 2 (mx_dd dd_X9_copyFrom 14 (24, .iload_n 2, 1) rfl) rfl rfl ?_
      refine mx_aload_n (pc := 25) 1 (mx_dd dd_X9_copyFrom 15 (25, .aload_n 1, 1) rfl) rfl rfl ?_
      obtain ⟨b2, g5, P⟩ := P
      refine mx_getR (pc := 26) mx_fl_X9_15 g1 rfl g5 (mx_dd dd_X9_copyFrom 16 (26, .getfield 15, 3) rfl) ?_
      obtain ⟨g6, P⟩ := P
      refine mx_alen (pc := 29) g6 (by decide) (mx_dd dd_X9_copyFrom 17 (29, .arraylength, 1) rfl) ?_
      refine mx_icmp_ge (pc := 30) 73 (mx_dd dd_X9_copyFrom 18 (30, .if_icmp .ge 43, 3) rfl) rfl (fun c30 => ?_) (fun c30 => ?_)
      · have P := P.1 c30
        exact mx_return (pc := 73) (mx_dd dd_X9_copyFrom 43 (73, .return_, 1) rfl) rfl P
      · have P := P.2 c30
        refine mx_aload_n (pc := 33) 0 (mx_dd dd_X9_copyFrom 19 (33, .aload_n 0, 1) rfl) rfl rfl ?_
        refine mx_getR (pc := 34) mx_fl_X9_15 g2 rfl g3 (mx_dd dd_X9_copyFrom 20 (34, .getfield 15, 3) rfl) ?_
        refine mx_iload_n (pc := 37) 2 (mx_dd dd_X9_copyFrom 21 (37, .iload_n 2, 1) rfl) rfl rfl ?_
        refine mx_aload_n (pc := 38) 1 (mx_dd dd_X9_copyFrom 22 (38, .aload_n 1, 1) rfl) rfl rfl ?_
        refine mx_getR (pc := 39) mx_fl_X9_15 g1 rfl g5 (mx_dd dd_X9_copyFrom 23 (39, .getfield 15, 3) rfl) ?_
        refine mx_iload_n (pc := 42) 2 (mx_dd dd_X9_copyFrom 24 (42, .iload_n 2, 1) rfl) rfl rfl ?_
        obtain ⟨g7, P⟩ := P
        refine mx_lald (pc := 43) g6 g7 (mx_dd dd_X9_copyFrom 25 (43, .laload, 1) rfl) ?_
        obtain ⟨g8, P⟩ := P
        refine mx_last (pc := 44) g4 g8 (mx_dd dd_X9_copyFrom 26 (44, .lastore, 1) rfl) ?_
        have P := P _ rfl
        refine mx_aload_n (pc := 45) 0 (mx_dd dd_X9_copyFrom 27 (45, .aload_n 0, 1) rfl) rfl rfl ?_
        obtain ⟨b3, g9, P⟩ := P
        refine mx_getR (pc := 46) mx_fl_X9_21 g2 rfl g9 (mx_dd dd_X9_copyFrom 28 (46, .getfield 21, 3) rfl) ?_
        refine mx_iload_n (pc := 49) 2 (mx_dd dd_X9_copyFrom 29 (49, .iload_n 2, 1) rfl) rfl rfl ?_
        refine mx_aload_n (pc := 50) 1 (mx_dd dd_X9_copyFrom 30 (50, .aload_n 1, 1) rfl) rfl rfl ?_
        obtain ⟨b4, g10, P⟩ := P
        refine mx_getR (pc := 51) mx_fl_X9_21 g1 rfl g10 (mx_dd dd_X9_copyFrom 31 (51, .getfield 21, 3) rfl) ?_
        refine mx_iload_n (pc := 54) 2 (mx_dd dd_X9_copyFrom 32 (54, .iload_n 2, 1) rfl) rfl rfl ?_
        obtain ⟨g11, P⟩ := P
        obtain ⟨g12, P⟩ := P
        refine mx_iald (pc := 55) g11 g12 (mx_dd dd_X9_copyFrom 33 (55, .iaload, 1) rfl) ?_
        obtain ⟨g13, P⟩ := P
        obtain ⟨g14, P⟩ := P
        refine mx_iast (pc := 56) g13 g14 (mx_dd dd_X9_copyFrom 34 (56, .iastore, 1) rfl) ?_
        have P := P _ rfl
        refine mx_aload_n (pc := 57) 0 (mx_dd dd_X9_copyFrom 35 (57, .aload_n 0, 1) rfl) rfl rfl ?_
        refine mx_dup (pc := 58) (mx_dd dd_X9_copyFrom 36 (58, .dup, 1) rfl) rfl ?_
        refine mx_getI (pc := 59) mx_fl_X9_25 g2 rfl (mx_dd dd_X9_copyFrom 37 (59, .getfield 25, 3) rfl) ?_
        refine mx_iconst (pc := 62) (v := (1 : Int32)) (mx_dd dd_X9_copyFrom 38 (62, .iconst 1, 1) rfl) (by decide) ?_
        refine mx_iadd (pc := 63) (mx_dd dd_X9_copyFrom 39 (63, .iadd, 1) rfl) ?_
        refine mx_putI (pc := 64) mx_fl_X9_25 g2 rfl (.inl rfl) rfl rfl (mx_dd dd_X9_copyFrom 40 (64, .putfield 25, 3) rfl) ?_
        have P := P _ rfl
        refine mx_iinc (pc := 67) 2 (mx_dd dd_X9_copyFrom 41 (67, .iinc 2 1, 3) rfl) rfl (mx_kadd (by decide : Int32.ofInt 1 = (1 : Int32))) (by decide) (lv' := [(2, _), (0, _), (1, _)]) rfl ?_
        refine mx_goto (pc := 70) 7 (mx_dd dd_X9_copyFrom 42 (70, .goto (-63), 3) rfl) rfl ?_
        refine mx_sel [1, 2, 0] rfl ?_
        exact P
theorem b_X9_markLines {d : Nat} {h : mxH} {Q : mxRes → mxH → Prop} (x0 : Nat) (x1 : Nat)
    (P : hpK h x0 = 9 ∧ ∃ b1 : Nat, hpR h x0 1 = some b1 ∧ 1 ≤ d ∧ hpK h x1 = 3 ∧ mx_SM mY_X3_markAll (d - 1) [.ref x1, .ref b1, .int (0 : Int32), .int (hpI h x0 2)] h (mx_KV (fun h1 => Q (.inl none) h1) (mx_XX mY_X9_markLines Q))) : mx_SM mY_X9_markLines d [.ref x0, .ref x1] h Q := by
  refine mx_SM_of (by decide) (Nat.le_of_ble_eq_true rfl) ?_
  show mx_SX mY_X9_markLines d 0 [(0, .ref x0), (1, .ref x1)] [] h Q
  refine mx_aload_n (pc := 0) 1 (mx_dd dd_X9_markLines 0 (0, .aload_n 1, 1) rfl) rfl rfl ?_
  refine mx_aload_n (pc := 1) 0 (mx_dd dd_X9_markLines 1 (1, .aload_n 0, 1) rfl) rfl rfl ?_
  obtain ⟨g1, P⟩ := P
  obtain ⟨b1, g2, P⟩ := P
  refine mx_getR (pc := 2) mx_fl_X9_21 g1 rfl g2 (mx_dd dd_X9_markLines 2 (2, .getfield 21, 3) rfl) ?_
  refine mx_iconst (pc := 5) (v := (0 : Int32)) (mx_dd dd_X9_markLines 3 (5, .iconst 0, 1) rfl) (by decide) ?_
  refine mx_aload_n (pc := 6) 0 (mx_dd dd_X9_markLines 4 (6, .aload_n 0, 1) rfl) rfl rfl ?_
  refine mx_getI (pc := 7) mx_fl_X9_25 g1 rfl (mx_dd dd_X9_markLines 5 (7, .getfield 25, 3) rfl) ?_
  obtain ⟨g3, P⟩ := P
  obtain ⟨g4, P⟩ := P
  refine mx_cVV (pc := 10) (Y := mY_X3_markAll) (As := [.ref b1, .int (0 : Int32), .int (hpI h x0 2)]) mx_ml_X9_33 mx_y_X3_markAll rfl g4 (by decide) rfl (by decide) rfl (mx_dd dd_X9_markLines 6 (10, .invokevirtual 33, 3) rfl) g3 (by decide) P (fun h1 P => ?_)
  exact mx_return (pc := 13) (mx_dd dd_X9_markLines 7 (13, .return_, 1) rfl) rfl P
