/-! PRINTED by wip/whole/genblocks.py: the blocks of the reference -/
theorem b_X12_setsOption_49 {d : Nat} {h : mxH} {Q : mxRes → mxH → Prop} (x0 : Nat) (x1 : Int32) (x2 : Int64)
    (P : hpK h x0 = 12 ∧ ((¬ (lg_cmp x2 (hpL h x0 31)) = 0 → 1 ≤ d ∧ mx_SM mY_X12_sets (d - 1) [.ref x0, .int x1, .int (32 : Int32), .int (0 : Int32)] h (mx_KV (fun h1 => Q (.inl (some (.int (0 : Int32)))) h1) (mx_XX mY_X12_setsOption Q))) ∧ ((lg_cmp x2 (hpL h x0 31)) = 0 → 1 ≤ d ∧ mx_SM mY_X12_sets (d - 1) [.ref x0, .int x1, .int (32 : Int32), .int (1 : Int32)] h (mx_KV (fun h2 => Q (.inl (some (.int (0 : Int32)))) h2) (mx_XX mY_X12_setsOption Q))))) : mx_SX mY_X12_setsOption d 49 [(0, .ref x0), (1, .int x1), (2, .long x2)] [] h Q := by
  refine mx_aload_n (pc := 49) 0 (mx_dd dd_X12_setsOption 29 (49, .aload_n 0, 1) rfl) rfl rfl ?_
  refine mx_iload_n (pc := 50) 1 (mx_dd dd_X12_setsOption 30 (50, .iload_n 1, 1) rfl) rfl rfl ?_
  refine mx_bipush (pc := 51) (v := (32 : Int32)) (mx_dd dd_X12_setsOption 31 (51, .bipush 32, 2) rfl) (by decide) ?_
  refine mx_lload_n (pc := 53) 2 (mx_dd dd_X12_setsOption 32 (53, .lload_n 2, 1) rfl) rfl rfl ?_
  refine mx_aload_n (pc := 54) 0 (mx_dd dd_X12_setsOption 33 (54, .aload_n 0, 1) rfl) rfl rfl ?_
  obtain ⟨g1, P⟩ := P
  refine mx_getL (pc := 55) mx_fl_X12_654 g1 rfl (mx_dd dd_X12_setsOption 34 (55, .getfield 654, 3) rfl) ?_
  refine mx_lcmp (pc := 58) (mx_dd dd_X12_setsOption 35 (58, .lcmp, 1) rfl) ?_
  refine mx_if_ne (pc := 59) 66 (mx_dd dd_X12_setsOption 36 (59, .ifCond .ne 7, 3) rfl) rfl (fun c59 => ?_) (fun c59 => ?_)
  · have P := P.1 c59
    refine mx_iconst (pc := 66) (v := (0 : Int32)) (mx_dd dd_X12_setsOption 39 (66, .iconst 0, 1) rfl) (by decide) ?_
    obtain ⟨g2, P⟩ := P
    refine mx_cVV (pc := 67) (Y := mY_X12_sets) (As := [.int _, .int _, .int _]) mx_ml_X12_419 mx_y_X12_sets rfl g1 (by decide) rfl (by decide) rfl (mx_dd dd_X12_setsOption 40 (67, .invokevirtual 419, 3) rfl) g2 (by decide) P (fun h1 P => ?_)
    refine mx_iconst (pc := 70) (v := (0 : Int32)) (mx_dd dd_X12_setsOption 41 (70, .iconst 0, 1) rfl) (by decide) ?_
    exact mx_ireturn (pc := 71) (mx_dd dd_X12_setsOption 42 (71, .ireturn, 1) rfl) rfl rfl P
  · have P := P.2 c59
    refine mx_iconst (pc := 62) (v := (1 : Int32)) (mx_dd dd_X12_setsOption 37 (62, .iconst 1, 1) rfl) (by decide) ?_
    refine mx_goto (pc := 63) 67 (mx_dd dd_X12_setsOption 38 (63, .goto 4, 3) rfl) rfl ?_
    obtain ⟨g3, P⟩ := P
    refine mx_cVV (pc := 67) (Y := mY_X12_sets) (As := [.int _, .int _, .int _]) mx_ml_X12_419 mx_y_X12_sets rfl g1 (by decide) rfl (by decide) rfl (mx_dd dd_X12_setsOption 40 (67, .invokevirtual 419, 3) rfl) g3 (by decide) P (fun h2 P => ?_)
    refine mx_iconst (pc := 70) (v := (0 : Int32)) (mx_dd dd_X12_setsOption 41 (70, .iconst 0, 1) rfl) (by decide) ?_
    exact mx_ireturn (pc := 71) (mx_dd dd_X12_setsOption 42 (71, .ireturn, 1) rfl) rfl rfl P
theorem b_X12_waits {d : Nat} {h : mxH} {Q : mxRes → mxH → Prop} (x0 : Nat) (x1 : Int32) (x2 : Int32)
    (P : hpK h x0 = 12 ∧ (((1 : Int32) < (hpI h x0 77) → Q (.inl (some (.int (2 : Int32)))) h) ∧ (¬ (1 : Int32) < (hpI h x0 77) → ((¬ (hpI h x0 77) = 0 → mx_SX mY_X12_waits d 21 [(0, .ref x0), (1, .int x1), (2, .int x2)] [] h Q) ∧ ((hpI h x0 77) = 0 → ((x2 = 0 → mx_SX mY_X12_waits d 21 [(0, .ref x0), (1, .int x1), (2, .int x2)] [] h Q) ∧ (¬ x2 = 0 → Q (.inl (some (.int (2 : Int32)))) h))))))) : mx_SM mY_X12_waits d [.ref x0, .int x1, .int x2] h Q := by
  refine mx_SM_of (by decide) (Nat.le_of_ble_eq_true rfl) ?_
  show mx_SX mY_X12_waits d 0 [(0, .ref x0), (1, .int x1), (2, .int x2)] [] h Q
  refine mx_aload_n (pc := 0) 0 (mx_dd dd_X12_waits_0 0 (0, .aload_n 0, 1) rfl) rfl rfl ?_
  obtain ⟨g1, P⟩ := P
  refine mx_getI (pc := 1) mx_fl_X12_562 g1 rfl (mx_dd dd_X12_waits_0 1 (1, .getfield 562, 3) rfl) ?_
  refine mx_iconst (pc := 4) (v := (1 : Int32)) (mx_dd dd_X12_waits_0 2 (4, .iconst 1, 1) rfl) (by decide) ?_
  refine mx_icmp_gt (pc := 5) 19 (mx_dd dd_X12_waits_0 3 (5, .if_icmp .gt 14, 3) rfl) rfl (fun c5 => ?_) (fun c5 => ?_)
  · have P := P.1 c5
    refine mx_iconst (pc := 19) (v := (2 : Int32)) (mx_dd dd_X12_waits_0 9 (19, .iconst 2, 1) rfl) (by decide) ?_
    exact mx_ireturn (pc := 20) (mx_dd dd_X12_waits_0 10 (20, .ireturn, 1) rfl) rfl rfl P
  · have P := P.2 c5
    refine mx_aload_n (pc := 8) 0 (mx_dd dd_X12_waits_0 4 (8, .aload_n 0, 1) rfl) rfl rfl ?_
    refine mx_getI (pc := 9) mx_fl_X12_562 g1 rfl (mx_dd dd_X12_waits_0 5 (9, .getfield 562, 3) rfl) ?_
    refine mx_if_ne (pc := 12) 21 (mx_dd dd_X12_waits_0 6 (12, .ifCond .ne 9, 3) rfl) rfl (fun c12 => ?_) (fun c12 => ?_)
    · have P := P.1 c12
      exact P
    · have P := P.2 c12
      refine mx_iload_n (pc := 15) 2 (mx_dd dd_X12_waits_0 7 (15, .iload_n 2, 1) rfl) rfl rfl ?_
      refine mx_if_eq (pc := 16) 21 (mx_dd dd_X12_waits_0 8 (16, .ifCond .eq 5, 3) rfl) rfl (fun c16 => ?_) (fun c16 => ?_)
      · have P := P.1 c16
        exact P
      · have P := P.2 c16
        refine mx_iconst (pc := 19) (v := (2 : Int32)) (mx_dd dd_X12_waits_0 9 (19, .iconst 2, 1) rfl) (by decide) ?_
        exact mx_ireturn (pc := 20) (mx_dd dd_X12_waits_0 10 (20, .ireturn, 1) rfl) rfl rfl P
theorem b_X12_waits_21 {d : Nat} {h : mxH} {Q : mxRes → mxH → Prop} (x0 : Nat) (x1 : Int32) (x2 : Int32)
    (P : hpK h x0 = 12 ∧ ((¬ (hpI h x0 77) = 0 → 1 ≤ d ∧ mx_SM mY_X12_numberAt (d - 1) [.ref x0, .int (0 : Int32)] h (mx_KI (fun v1 h1 => ((¬ v1 = (-1 : Int32) → hpK h1 x0 = 12 ∧ mx_SM mY_X12_of (d - 1) [.ref x0, .int x1, .int (49 : Int32)] h1 (mx_KI (fun v2 h2 => mx_SM mY_X12_in (d - 1) [.int v1, .int (1 : Int32), .int v2] h2 (mx_KI (fun v3 h3 => ((v3 = 0 → Q (.inl (some (.int (127 : Int32)))) h3) ∧ (¬ v3 = 0 → hpK h3 x0 = 12 ∧ mx_SM mY_X12_of (d - 1) [.ref x0, .int x1, .int (((50 : Int32) + ((4 : Int32) * v1)) - (4 : Int32))] h3 (mx_KI (fun v4 h4 => ((v4 = 0 → ((x2 = 0 → hpK h4 x0 = 12 ∧ mx_SM mY_X12_runsJob (d - 1) [.ref x0, .int x1, .int (v1 - (1 : Int32)), .int (1 : Int32)] h4 (mx_KV (fun h5 => hpK h5 x0 = 12 ∧ mx_SM mY_X12_of (d - 1) [.ref x0, .int x1, .int (((50 : Int32) + ((4 : Int32) * v1)) - (3 : Int32))] h5 (mx_KI (fun v5 h6 => Q (.inl (some (.int v5))) h6) (mx_XX mY_X12_waits Q))) (mx_XX mY_X12_waits Q))) ∧ (¬ x2 = 0 → hpK h4 x0 = 12 ∧ mx_SM mY_X12_of (d - 1) [.ref x0, .int x1, .int (35 : Int32)] h4 (mx_KI (fun v6 h7 => hpK h7 x0 = 12 ∧ mx_SM mY_X12_runsJob (d - 1) [.ref x0, .int x1, .int (v1 - (1 : Int32)), .int v6] h7 (mx_KV (fun h8 => hpK h8 x0 = 12 ∧ mx_SM mY_X12_of (d - 1) [.ref x0, .int x1, .int (((50 : Int32) + ((4 : Int32) * v1)) - (3 : Int32))] h8 (mx_KI (fun v7 h9 => Q (.inl (some (.int v7))) h9) (mx_XX mY_X12_waits Q))) (mx_XX mY_X12_waits Q))) (mx_XX mY_X12_waits Q))))) ∧ (¬ v4 = 0 → Q (.inl (some (.int (127 : Int32)))) h4))) (mx_XX mY_X12_waits Q))))) (mx_XX mY_X12_waits Q))) (mx_XX mY_X12_waits Q))) ∧ (v1 = (-1 : Int32) → Q (.inl (some (.int (2 : Int32)))) h1))) (mx_XX mY_X12_waits Q))) ∧ ((hpI h x0 77) = 0 → 1 ≤ d ∧ mx_SM mY_X12_runsJobs (d - 1) [.ref x0, .int x1] h (mx_KV (fun h10 => Q (.inl (some (.int (0 : Int32)))) h10) (mx_XX mY_X12_waits Q))))) : mx_SX mY_X12_waits d 21 [(0, .ref x0), (1, .int x1), (2, .int x2)] [] h Q := by
  refine mx_aload_n (pc := 21) 0 (mx_dd dd_X12_waits_0 11 (21, .aload_n 0, 1) rfl) rfl rfl ?_
  obtain ⟨g1, P⟩ := P
  refine mx_getI (pc := 22) mx_fl_X12_562 g1 rfl (mx_dd dd_X12_waits_0 12 (22, .getfield 562, 3) rfl) ?_
  refine mx_if_ne (pc := 25) 35 (mx_dd dd_X12_waits_0 13 (25, .ifCond .ne 10, 3) rfl) rfl (fun c25 => ?_) (fun c25 => ?_)
  · have P := P.1 c25
    refine mx_aload_n (pc := 35) 0 (mx_dd dd_X12_waits_0 19 (35, .aload_n 0, 1) rfl) rfl rfl ?_
    refine mx_iconst (pc := 36) (v := (0 : Int32)) (mx_dd dd_X12_waits_0 20 (36, .iconst 0, 1) rfl) (by decide) ?_
    obtain ⟨g2, P⟩ := P
    refine mx_cVI (pc := 37) (Y := mY_X12_numberAt) (As := [.int _]) mx_ml_X12_630 mx_y_X12_numberAt rfl g1 (by decide) rfl (by decide) rfl (mx_dd dd_X12_waits_0 21 (37, .invokevirtual 630, 3) rfl) g2 (by decide) P (fun v1 h1 P => ?_)
    refine mx_istore_n (pc := 40) (mx_dd dd_X12_waits_0 22 (40, .istore_n 3, 1) rfl) rfl (by decide) (lv' := [(3, _), (0, _), (1, _), (2, _)]) rfl ?_
    refine mx_iload_n (pc := 41) 0 (mx_dd dd_X12_waits_0 23 (41, .iload_n 3, 1) rfl) rfl rfl ?_
    refine mx_iconst (pc := 42) (v := (-1 : Int32)) (mx_dd dd_X12_waits_0 24 (42, .iconst (-1), 1) rfl) (by decide) ?_
    refine mx_icmp_ne (pc := 43) 48 (mx_dd dd_X12_waits_0 25 (43, .if_icmp .ne 5, 3) rfl) rfl (fun c43 => ?_) (fun c43 => ?_)
    · have P := P.1 c43
      refine mx_iload_n (pc := 48) 0 (mx_dd dd_X12_waits_0 28 (48, .iload_n 3, 1) rfl) rfl rfl ?_
      refine mx_iconst (pc := 49) (v := (1 : Int32)) (mx_dd dd_X12_waits_0 29 (49, .iconst 1, 1) rfl) (by decide) ?_
      refine mx_aload_n (pc := 50) 1 (mx_dd dd_X12_waits_0 30 (50, .aload_n 0, 1) rfl) rfl rfl ?_
      refine mx_iload_n (pc := 51) 2 (mx_dd dd_X12_waits_0 31 (51, .iload_n 1, 1) rfl) rfl rfl ?_
      refine mx_bipush (pc := 52) (v := (49 : Int32)) (mx_dd dd_X12_waits_0 32 (52, .bipush 49, 2) rfl) (by decide) ?_
      obtain ⟨g3, P⟩ := P
      refine mx_cVI (pc := 54) (Y := mY_X12_of) (As := [.int _, .int _]) mx_ml_X12_416 mx_y_X12_of rfl g3 (by decide) rfl (by simp [Value.category]) rfl (mx_dd dd_X12_waits_0 33 (54, .invokevirtual 416, 3) rfl) g2 (by decide) P (fun v2 h2 P => ?_)
      refine mx_cSI (pc := 57) (Y := mY_X12_in) (As := [.int _, .int _, .int _]) mx_ml_X12_571 mx_y_X12_in rfl rfl (by decide) rfl (mx_dd dd_X12_waits_0 34 (57, .invokestatic 571, 3) rfl) g2 (by decide) P (fun v3 h3 P => ?_)
      refine mx_if_eq (pc := 60) 79 (mx_dd dd_X12_waits_0 35 (60, .ifCond .eq 19, 3) rfl) rfl (fun c60 => ?_) (fun c60 => ?_)
      · have P := P.1 c60
        refine mx_bipush (pc := 79) (v := (127 : Int32)) (mx_dd dd_X12_waits_1 7 (79, .bipush 127, 2) rfl) (by decide) ?_
        exact mx_ireturn (pc := 81) (mx_dd dd_X12_waits_1 8 (81, .ireturn, 1) rfl) rfl rfl P
      · have P := P.2 c60
        refine mx_aload_n (pc := 63) 1 (mx_dd dd_X12_waits_0 36 (63, .aload_n 0, 1) rfl) rfl rfl ?_
        refine mx_iload_n (pc := 64) 2 (mx_dd dd_X12_waits_0 37 (64, .iload_n 1, 1) rfl) rfl rfl ?_
        refine mx_bipush (pc := 65) (v := (50 : Int32)) (mx_dd dd_X12_waits_0 38 (65, .bipush 50, 2) rfl) (by decide) ?_
        refine mx_iconst (pc := 67) (v := (4 : Int32)) (mx_dd dd_X12_waits_0 39 (67, .iconst 4, 1) rfl) (by decide) ?_
        refine mx_iload_n (pc := 68) 0 (mx_dd dd_X12_waits_1 0 (68, .iload_n 3, 1) rfl) rfl rfl ?_
        refine mx_imul (pc := 69) (mx_dd dd_X12_waits_1 1 (69, .imul, 1) rfl) ?_
        refine mx_iadd (pc := 70) (mx_dd dd_X12_waits_1 2 (70, .iadd, 1) rfl) ?_
        refine mx_iconst (pc := 71) (v := (4 : Int32)) (mx_dd dd_X12_waits_1 3 (71, .iconst 4, 1) rfl) (by decide) ?_
        refine mx_isub (pc := 72) (mx_dd dd_X12_waits_1 4 (72, .isub, 1) rfl) ?_
        obtain ⟨g4, P⟩ := P
        refine mx_cVI (pc := 73) (Y := mY_X12_of) (As := [.int _, .int _]) mx_ml_X12_416 mx_y_X12_of rfl g4 (by decide) rfl (by decide) rfl (mx_dd dd_X12_waits_1 5 (73, .invokevirtual 416, 3) rfl) g2 (by decide) P (fun v4 h4 P => ?_)
        refine mx_if_eq (pc := 76) 82 (mx_dd dd_X12_waits_1 6 (76, .ifCond .eq 6, 3) rfl) rfl (fun c76 => ?_) (fun c76 => ?_)
        · have P := P.1 c76
          refine mx_aload_n (pc := 82) 1 (mx_dd dd_X12_waits_1 9 (82, .aload_n 0, 1) rfl) rfl rfl ?_
          refine mx_iload_n (pc := 83) 2 (mx_dd dd_X12_waits_1 10 (83, .iload_n 1, 1) rfl) rfl rfl ?_
          refine mx_iload_n (pc := 84) 0 (mx_dd dd_X12_waits_1 11 (84, .iload_n 3, 1) rfl) rfl rfl ?_
          refine mx_iconst (pc := 85) (v := (1 : Int32)) (mx_dd dd_X12_waits_1 12 (85, .iconst 1, 1) rfl) (by decide) ?_
          refine mx_isub (pc := 86) (mx_dd dd_X12_waits_1 13 (86, .isub, 1) rfl) ?_
          refine mx_iload_n (pc := 87) 3 (mx_dd dd_X12_waits_1 14 (87, .iload_n 2, 1) rfl) rfl rfl ?_
          refine mx_if_eq (pc := 88) 101 (mx_dd dd_X12_waits_1 15 (88, .ifCond .eq 13, 3) rfl) rfl (fun c88 => ?_) (fun c88 => ?_)
          · have P := P.1 c88
            refine mx_iconst (pc := 101) (v := (1 : Int32)) (mx_dd dd_X12_waits_1 21 (101, .iconst 1, 1) rfl) (by decide) ?_
            obtain ⟨g5, P⟩ := P
            refine mx_cVV (pc := 102) (Y := mY_X12_runsJob) (As := [.int _, .int _, .int _]) mx_ml_X12_543 mx_y_X12_runsJob rfl g5 (by decide) rfl (by decide) rfl (mx_dd dd_X12_waits_1 22 (102, .invokevirtual 543, 3) rfl) g2 (by decide) P (fun h5 P => ?_)
            refine mx_aload_n (pc := 105) 1 (mx_dd dd_X12_waits_1 23 (105, .aload_n 0, 1) rfl) rfl rfl ?_
            refine mx_iload_n (pc := 106) 2 (mx_dd dd_X12_waits_1 24 (106, .iload_n 1, 1) rfl) rfl rfl ?_
            refine mx_bipush (pc := 107) (v := (50 : Int32)) (mx_dd dd_X12_waits_1 25 (107, .bipush 50, 2) rfl) (by decide) ?_
            refine mx_iconst (pc := 109) (v := (4 : Int32)) (mx_dd dd_X12_waits_1 26 (109, .iconst 4, 1) rfl) (by decide) ?_
            refine mx_iload_n (pc := 110) 0 (mx_dd dd_X12_waits_1 27 (110, .iload_n 3, 1) rfl) rfl rfl ?_
            refine mx_imul (pc := 111) (mx_dd dd_X12_waits_1 28 (111, .imul, 1) rfl) ?_
            refine mx_iadd (pc := 112) (mx_dd dd_X12_waits_1 29 (112, .iadd, 1) rfl) ?_
            refine mx_iconst (pc := 113) (v := (3 : Int32)) (mx_dd dd_X12_waits_1 30 (113, .iconst 3, 1) rfl) (by decide) ?_
            refine mx_isub (pc := 114) (mx_dd dd_X12_waits_1 31 (114, .isub, 1) rfl) ?_
            obtain ⟨g6, P⟩ := P
            refine mx_cVI (pc := 115) (Y := mY_X12_of) (As := [.int _, .int _]) mx_ml_X12_416 mx_y_X12_of rfl g6 (by decide) rfl (by decide) rfl (mx_dd dd_X12_waits_1 32 (115, .invokevirtual 416, 3) rfl) g2 (by decide) P (fun v5 h6 P => ?_)
            exact mx_ireturn (pc := 118) (mx_dd dd_X12_waits_1 33 (118, .ireturn, 1) rfl) rfl rfl P
          · have P := P.2 c88
            refine mx_aload_n (pc := 91) 1 (mx_dd dd_X12_waits_1 16 (91, .aload_n 0, 1) rfl) rfl rfl ?_
            refine mx_iload_n (pc := 92) 2 (mx_dd dd_X12_waits_1 17 (92, .iload_n 1, 1) rfl) rfl rfl ?_
            refine mx_bipush (pc := 93) (v := (35 : Int32)) (mx_dd dd_X12_waits_1 18 (93, .bipush 35, 2) rfl) (by decide) ?_
            obtain ⟨g7, P⟩ := P
            refine mx_cVI (pc := 95) (Y := mY_X12_of) (As := [.int _, .int _]) mx_ml_X12_416 mx_y_X12_of rfl g7 (by decide) rfl (by simp [Value.category]) rfl (mx_dd dd_X12_waits_1 19 (95, .invokevirtual 416, 3) rfl) g2 (by decide) P (fun v6 h7 P => ?_)
            refine mx_goto (pc := 98) 102 (mx_dd dd_X12_waits_1 20 (98, .goto 4, 3) rfl) rfl ?_
            obtain ⟨g8, P⟩ := P
            refine mx_cVV (pc := 102) (Y := mY_X12_runsJob) (As := [.int _, .int _, .int _]) mx_ml_X12_543 mx_y_X12_runsJob rfl g8 (by decide) rfl (by decide) rfl (mx_dd dd_X12_waits_1 22 (102, .invokevirtual 543, 3) rfl) g2 (by decide) P (fun h8 P => ?_)
            refine mx_aload_n (pc := 105) 1 (mx_dd dd_X12_waits_1 23 (105, .aload_n 0, 1) rfl) rfl rfl ?_
            refine mx_iload_n (pc := 106) 2 (mx_dd dd_X12_waits_1 24 (106, .iload_n 1, 1) rfl) rfl rfl ?_
            refine mx_bipush (pc := 107) (v := (50 : Int32)) (mx_dd dd_X12_waits_1 25 (107, .bipush 50, 2) rfl) (by decide) ?_
            refine mx_iconst (pc := 109) (v := (4 : Int32)) (mx_dd dd_X12_waits_1 26 (109, .iconst 4, 1) rfl) (by decide) ?_
            refine mx_iload_n (pc := 110) 0 (mx_dd dd_X12_waits_1 27 (110, .iload_n 3, 1) rfl) rfl rfl ?_
            refine mx_imul (pc := 111) (mx_dd dd_X12_waits_1 28 (111, .imul, 1) rfl) ?_
            refine mx_iadd (pc := 112) (mx_dd dd_X12_waits_1 29 (112, .iadd, 1) rfl) ?_
            refine mx_iconst (pc := 113) (v := (3 : Int32)) (mx_dd dd_X12_waits_1 30 (113, .iconst 3, 1) rfl) (by decide) ?_
            refine mx_isub (pc := 114) (mx_dd dd_X12_waits_1 31 (114, .isub, 1) rfl) ?_
            obtain ⟨g9, P⟩ := P
            refine mx_cVI (pc := 115) (Y := mY_X12_of) (As := [.int _, .int _]) mx_ml_X12_416 mx_y_X12_of rfl g9 (by decide) rfl (by decide) rfl (mx_dd dd_X12_waits_1 32 (115, .invokevirtual 416, 3) rfl) g2 (by decide) P (fun v7 h9 P => ?_)
            exact mx_ireturn (pc := 118) (mx_dd dd_X12_waits_1 33 (118, .ireturn, 1) rfl) rfl rfl P
        · have P := P.2 c76
          refine mx_bipush (pc := 79) (v := (127 : Int32)) (mx_dd dd_X12_waits_1 7 (79, .bipush 127, 2) rfl) (by decide) ?_
          exact mx_ireturn (pc := 81) (mx_dd dd_X12_waits_1 8 (81, .ireturn, 1) rfl) rfl rfl P
    · have P := P.2 c43
      refine mx_iconst (pc := 46) (v := (2 : Int32)) (mx_dd dd_X12_waits_0 26 (46, .iconst 2, 1) rfl) (by decide) ?_
      exact mx_ireturn (pc := 47) (mx_dd dd_X12_waits_0 27 (47, .ireturn, 1) rfl) rfl rfl P
  · have P := P.2 c25
    refine mx_aload_n (pc := 28) 0 (mx_dd dd_X12_waits_0 14 (28, .aload_n 0, 1) rfl) rfl rfl ?_
    refine mx_iload_n (pc := 29) 1 (mx_dd dd_X12_waits_0 15 (29, .iload_n 1, 1) rfl) rfl rfl ?_
    obtain ⟨g10, P⟩ := P
    refine mx_cVV (pc := 30) (Y := mY_X12_runsJobs) (As := [.int _]) mx_ml_X12_540 mx_y_X12_runsJobs rfl g1 (by decide) rfl (by decide) rfl (mx_dd dd_X12_waits_0 16 (30, .invokevirtual 540, 3) rfl) g10 (by decide) P (fun h10 P => ?_)
    refine mx_iconst (pc := 33) (v := (0 : Int32)) (mx_dd dd_X12_waits_0 17 (33, .iconst 0, 1) rfl) (by decide) ?_
    exact mx_ireturn (pc := 34) (mx_dd dd_X12_waits_0 18 (34, .ireturn, 1) rfl) rfl rfl P
set_option maxRecDepth 100000 in
theorem b_X12_init {d : Nat} {h : mxH} {Q : mxRes → mxH → Prop} (x0 : Nat)
    (P : 1 ≤ d ∧ ∀ (b1 : Nat) (h1 : mxH), b1 = hpN h → h1 = hnw h 13 700 700 → hpK h1 x0 = 12 ∧ ∀ h2 : mxH, h2 = hsR h1 x0 1 (some b1) → ∀ (b2 : Nat) (h3 : mxH), b2 = hpN h2 → h3 = hnw h2 14 5 5 → hpK h3 x0 = 12 ∧ ∀ h4 : mxH, h4 = hsR h3 x0 2 (some b2) → ∀ h5 : mxH, h5 = hsI h4 x0 11 (-1 : Int32) → mx_SM mY_X12_named (d - 1) [.ref (3 + 16)] h5 (mx_KL (fun v1 h6 => hpK h6 x0 = 12 ∧ ∀ h7 : mxH, h7 = hsL h6 x0 13 v1 → mx_SM mY_X12_named (d - 1) [.ref (3 + 17)] h7 (mx_KL (fun v2 h8 => hpK h8 x0 = 12 ∧ ∀ h9 : mxH, h9 = hsL h8 x0 14 v2 → mx_SM mY_X12_named (d - 1) [.ref (3 + 18)] h9 (mx_KL (fun v3 h10 => hpK h10 x0 = 12 ∧ ∀ h11 : mxH, h11 = hsL h10 x0 15 v3 → mx_SM mY_X12_named (d - 1) [.ref (3 + 19)] h11 (mx_KL (fun v4 h12 => hpK h12 x0 = 12 ∧ ∀ h13 : mxH, h13 = hsL h12 x0 16 v4 → mx_SM mY_X12_named (d - 1) [.ref (3 + 20)] h13 (mx_KL (fun v5 h14 => hpK h14 x0 = 12 ∧ ∀ h15 : mxH, h15 = hsL h14 x0 17 v5 → mx_SM mY_X12_named (d - 1) [.ref (3 + 21)] h15 (mx_KL (fun v6 h16 => hpK h16 x0 = 12 ∧ ∀ h17 : mxH, h17 = hsL h16 x0 18 v6 → mx_SM mY_X12_named (d - 1) [.ref (3 + 22)] h17 (mx_KL (fun v7 h18 => hpK h18 x0 = 12 ∧ ∀ h19 : mxH, h19 = hsL h18 x0 19 v7 → mx_SM mY_X12_named (d - 1) [.ref (3 + 23)] h19 (mx_KL (fun v8 h20 => hpK h20 x0 = 12 ∧ ∀ h21 : mxH, h21 = hsL h20 x0 20 v8 → mx_SM mY_X12_named (d - 1) [.ref (3 + 24)] h21 (mx_KL (fun v9 h22 => hpK h22 x0 = 12 ∧ ∀ h23 : mxH, h23 = hsL h22 x0 21 v9 → mx_SM mY_X12_named (d - 1) [.ref (3 + 25)] h23 (mx_KL (fun v10 h24 => hpK h24 x0 = 12 ∧ ∀ h25 : mxH, h25 = hsL h24 x0 22 v10 → mx_SM mY_X12_named (d - 1) [.ref (3 + 26)] h25 (mx_KL (fun v11 h26 => hpK h26 x0 = 12 ∧ ∀ h27 : mxH, h27 = hsL h26 x0 23 v11 → mx_SM mY_X12_named (d - 1) [.ref (3 + 27)] h27 (mx_KL (fun v12 h28 => hpK h28 x0 = 12 ∧ ∀ h29 : mxH, h29 = hsL h28 x0 24 v12 → mx_SM mY_X12_named (d - 1) [.ref (3 + 28)] h29 (mx_KL (fun v13 h30 => hpK h30 x0 = 12 ∧ ∀ h31 : mxH, h31 = hsL h30 x0 25 v13 → mx_SM mY_X12_named (d - 1) [.ref (3 + 29)] h31 (mx_KL (fun v14 h32 => hpK h32 x0 = 12 ∧ ∀ h33 : mxH, h33 = hsL h32 x0 26 v14 → mx_SM mY_X12_named (d - 1) [.ref (3 + 30)] h33 (mx_KL (fun v15 h34 => hpK h34 x0 = 12 ∧ ∀ h35 : mxH, h35 = hsL h34 x0 27 v15 → mx_SM mY_X12_named (d - 1) [.ref (3 + 31)] h35 (mx_KL (fun v16 h36 => hpK h36 x0 = 12 ∧ ∀ h37 : mxH, h37 = hsL h36 x0 28 v16 → mx_SM mY_X12_named (d - 1) [.ref (3 + 32)] h37 (mx_KL (fun v17 h38 => hpK h38 x0 = 12 ∧ ∀ h39 : mxH, h39 = hsL h38 x0 29 v17 → mx_SM mY_X12_named (d - 1) [.ref (3 + 33)] h39 (mx_KL (fun v18 h40 => hpK h40 x0 = 12 ∧ ∀ h41 : mxH, h41 = hsL h40 x0 30 v18 → mx_SM mY_X12_named (d - 1) [.ref (3 + 34)] h41 (mx_KL (fun v19 h42 => hpK h42 x0 = 12 ∧ ∀ h43 : mxH, h43 = hsL h42 x0 31 v19 → mx_SM mY_X12_named (d - 1) [.ref (3 + 35)] h43 (mx_KL (fun v20 h44 => hpK h44 x0 = 12 ∧ ∀ h45 : mxH, h45 = hsL h44 x0 32 v20 → ∀ (b3 : Nat) (h46 : mxH), b3 = hpN h45 → h46 = hnw h45 14 3000 3000 → hpK h46 x0 = 12 ∧ ∀ h47 : mxH, h47 = hsR h46 x0 33 (some b3) → ∀ (b4 : Nat) (h48 : mxH), b4 = hpN h47 → h48 = hnw h47 14 3000 3000 → hpK h48 x0 = 12 ∧ ∀ h49 : mxH, h49 = hsR h48 x0 34 (some b4) → ∀ (b5 : Nat) (h50 : mxH), b5 = hpN h49 → h50 = hnw h49 14 3000 3000 → hpK h50 x0 = 12 ∧ ∀ h51 : mxH, h51 = hsR h50 x0 35 (some b5) → ∀ (b6 : Nat) (h52 : mxH), b6 = hpN h51 → h52 = hnw h51 14 3000 3000 → hpK h52 x0 = 12 ∧ ∀ h53 : mxH, h53 = hsR h52 x0 36 (some b6) → ∀ (b7 : Nat) (h54 : mxH), b7 = hpN h53 → h54 = hnw h53 14 3000 3000 → hpK h54 x0 = 12 ∧ ∀ h55 : mxH, h55 = hsR h54 x0 37 (some b7) → ∀ (b8 : Nat) (h56 : mxH), b8 = hpN h55 → h56 = hnw h55 14 3000 3000 → hpK h56 x0 = 12 ∧ ∀ h57 : mxH, h57 = hsR h56 x0 38 (some b8) → ∀ (b9 : Nat) (h58 : mxH), b9 = hpN h57 → h58 = hnw h57 14 3000 3000 → hpK h58 x0 = 12 ∧ ∀ h59 : mxH, h59 = hsR h58 x0 39 (some b9) → ∀ (b10 : Nat) (h60 : mxH), b10 = hpN h59 → h60 = hnw h59 15 3000 3000 → hpK h60 x0 = 12 ∧ ∀ h61 : mxH, h61 = hsR h60 x0 40 (some b10) → ∀ (b11 : Nat) (h62 : mxH), b11 = hpN h61 → h62 = hnw h61 14 3000 3000 → hpK h62 x0 = 12 ∧ ∀ h63 : mxH, h63 = hsR h62 x0 41 (some b11) → ∀ (b12 : Nat) (h64 : mxH), b12 = hpN h63 → h64 = hnw h63 14 3000 3000 → hpK h64 x0 = 12 ∧ ∀ h65 : mxH, h65 = hsR h64 x0 42 (some b12) → ∀ (b13 : Nat) (h66 : mxH), b13 = hpN h65 → h66 = hnw h65 14 3000 3000 → hpK h66 x0 = 12 ∧ ∀ h67 : mxH, h67 = hsR h66 x0 43 (some b13) → ∀ (b14 : Nat) (h68 : mxH), b14 = hpN h67 → h68 = hnw h67 14 3000 3000 → hpK h68 x0 = 12 ∧ ∀ h69 : mxH, h69 = hsR h68 x0 44 (some b14) → ∀ (b15 : Nat) (h70 : mxH), b15 = hpN h69 → h70 = hnw h69 14 3000 3000 → hpK h70 x0 = 12 ∧ ∀ h71 : mxH, h71 = hsR h70 x0 45 (some b15) → ∀ (b16 : Nat) (h72 : mxH), b16 = hpN h71 → h72 = hnw h71 14 3000 3000 → hpK h72 x0 = 12 ∧ ∀ h73 : mxH, h73 = hsR h72 x0 46 (some b16) → ∀ (b17 : Nat) (h74 : mxH), b17 = hpN h73 → h74 = hnw h73 14 3000 3000 → hpK h74 x0 = 12 ∧ ∀ h75 : mxH, h75 = hsR h74 x0 47 (some b17) → ∀ (b18 : Nat) (h76 : mxH), b18 = hpN h75 → h76 = hnw h75 15 3000 3000 → hpK h76 x0 = 12 ∧ ∀ h77 : mxH, h77 = hsR h76 x0 48 (some b18) → ∀ (b19 : Nat) (h78 : mxH), b19 = hpN h77 → h78 = hnw h77 13 352000 352000 → hpK h78 x0 = 12 ∧ ∀ h79 : mxH, h79 = hsR h78 x0 52 (some b19) → ∀ (b20 : Nat) (h80 : mxH), b20 = hpN h79 → h80 = hnw h79 14 4400 4400 → hpK h80 x0 = 12 ∧ ∀ h81 : mxH, h81 = hsR h80 x0 53 (some b20) → ∀ (b21 : Nat) (h82 : mxH), b21 = hpN h81 → h82 = hnw h81 16 4400 4400 → hpK h82 x0 = 12 ∧ ∀ h83 : mxH, h83 = hsR h82 x0 54 (some b21) → ∀ (b22 : Nat) (h84 : mxH), b22 = hpN h83 → h84 = hnw h83 14 471 471 → hpK h84 x0 = 12 ∧ ∀ h85 : mxH, h85 = hsR h84 x0 56 (some b22) → ∀ (b23 : Nat) (h86 : mxH), b23 = hpN h85 → h86 = hnw h85 15 8 8 → hpK h86 x0 = 12 ∧ ∀ h87 : mxH, h87 = hsR h86 x0 57 (some b23) → ∀ (b24 : Nat) (h88 : mxH), b24 = hpN h87 → h88 = hnw h87 14 4000 4000 → hpK h88 x0 = 12 ∧ ∀ h89 : mxH, h89 = hsR h88 x0 58 (some b24) → ∀ (b25 : Nat) (h90 : mxH), b25 = hpN h89 → h90 = hnw h89 14 4000 4000 → hpK h90 x0 = 12 ∧ ∀ h91 : mxH, h91 = hsR h90 x0 59 (some b25) → ∀ (b26 : Nat) (h92 : mxH), b26 = hpN h91 → h92 = hnw h91 14 4000 4000 → hpK h92 x0 = 12 ∧ ∀ h93 : mxH, h93 = hsR h92 x0 60 (some b26) → ∀ (b27 : Nat) (h94 : mxH), b27 = hpN h93 → h94 = hnw h93 14 400 400 → hpK h94 x0 = 12 ∧ ∀ h95 : mxH, h95 = hsR h94 x0 61 (some b27) → ∀ (b28 : Nat) (h96 : mxH), b28 = hpN h95 → h96 = hnw h95 14 400 400 → hpK h96 x0 = 12 ∧ ∀ h97 : mxH, h97 = hsR h96 x0 62 (some b28) → ∀ (b29 : Nat) (h98 : mxH), b29 = hpN h97 → h98 = hnw h97 16 400 400 → hpK h98 x0 = 12 ∧ ∀ h99 : mxH, h99 = hsR h98 x0 63 (some b29) → ∀ (b30 : Nat) (h100 : mxH), b30 = hpN h99 → h100 = hnw h99 14 13000 13000 → hpK h100 x0 = 12 ∧ ∀ h101 : mxH, h101 = hsR h100 x0 64 (some b30) → ∀ (b31 : Nat) (h102 : mxH), b31 = hpN h101 → h102 = hnw h101 14 13000 13000 → hpK h102 x0 = 12 ∧ ∀ h103 : mxH, h103 = hsR h102 x0 65 (some b31) → ∀ (b32 : Nat) (h104 : mxH), b32 = hpN h103 → h104 = hnw h103 14 8000 8000 → hpK h104 x0 = 12 ∧ ∀ h105 : mxH, h105 = hsR h104 x0 68 (some b32) → ∀ (b33 : Nat) (h106 : mxH), b33 = hpN h105 → h106 = hnw h105 16 4000 4000 → hpK h106 x0 = 12 ∧ ∀ h107 : mxH, h107 = hsR h106 x0 70 (some b33) → ∀ (b34 : Nat) (h108 : mxH), b34 = hpN h107 → h108 = hnw h107 14 83000 83000 → hpK h108 x0 = 12 ∧ ∀ h109 : mxH, h109 = hsR h108 x0 71 (some b34) → ∀ (b35 : Nat) (h110 : mxH), b35 = hpN h109 → h110 = hnw h109 15 34000 34000 → hpK h110 x0 = 12 ∧ ∀ h111 : mxH, h111 = hsR h110 x0 72 (some b35) → ∀ (b36 : Nat) (h112 : mxH), b36 = hpN h111 → h112 = hnw h111 14 184 184 → hpK h112 x0 = 12 ∧ ∀ h113 : mxH, h113 = hsR h112 x0 73 (some b36) → ∀ (b37 : Nat) (h114 : mxH), b37 = hpN h113 → h114 = hnw h113 13 30000 30000 → hpK h114 x0 = 12 ∧ ∀ h115 : mxH, h115 = hsR h114 x0 74 (some b37) → ∀ (b38 : Nat) (h116 : mxH), b38 = hpN h115 → h116 = hnw h115 14 400 400 → hpK h116 x0 = 12 ∧ ∀ h117 : mxH, h117 = hsR h116 x0 75 (some b38) → ∀ (b39 : Nat) (h118 : mxH), b39 = hpN h117 → h118 = hnw h117 14 400 400 → hpK h118 x0 = 12 ∧ ∀ h119 : mxH, h119 = hsR h118 x0 76 (some b39) → ∀ (b40 : Nat) (h120 : mxH), b40 = hpN h119 → h120 = hnw h119 13 80 80 → hpK h120 x0 = 12 ∧ ∀ h121 : mxH, h121 = hsR h120 x0 79 (some b40) → ∀ (b41 : Nat) (h122 : mxH), b41 = hpN h121 → h122 = hnw h121 14 4668 4668 → hpK h122 x0 = 12 ∧ ∀ h123 : mxH, h123 = hsR h122 x0 80 (some b41) → ∀ (b42 : Nat) (h124 : mxH), b42 = hpN h123 → h124 = hnw h123 15 252 252 → hpK h124 x0 = 12 ∧ ∀ h125 : mxH, h125 = hsR h124 x0 81 (some b42) → ∀ (b43 : Nat) (h126 : mxH), b43 = hpN h125 → h126 = hnw h125 13 80 80 → hpK h126 x0 = 12 ∧ ∀ h127 : mxH, h127 = hsR h126 x0 83 (some b43) → mx_SX mY_X12_init d 581 [(0, .ref x0), (1, .int (0 : Int32))] [] h127 Q) (mx_XX mY_X12_init Q))) (mx_XX mY_X12_init Q))) (mx_XX mY_X12_init Q))) (mx_XX mY_X12_init Q))) (mx_XX mY_X12_init Q))) (mx_XX mY_X12_init Q))) (mx_XX mY_X12_init Q))) (mx_XX mY_X12_init Q))) (mx_XX mY_X12_init Q))) (mx_XX mY_X12_init Q))) (mx_XX mY_X12_init Q))) (mx_XX mY_X12_init Q))) (mx_XX mY_X12_init Q))) (mx_XX mY_X12_init Q))) (mx_XX mY_X12_init Q))) (mx_XX mY_X12_init Q))) (mx_XX mY_X12_init Q))) (mx_XX mY_X12_init Q))) (mx_XX mY_X12_init Q))) (mx_XX mY_X12_init Q))) : mx_SM mY_X12_init d [.ref x0] h Q := by
  refine mx_SM_of (by decide) (Nat.le_of_ble_eq_true rfl) ?_
  show mx_SX mY_X12_init d 0 [(0, .ref x0)] [] h Q
  refine mx_aload_n (pc := 0) 0 (mx_dd dd_X12_init_0 0 (0, .aload_n 0, 1) rfl) rfl rfl ?_
  obtain ⟨g1, P⟩ := P
  refine mx_objInit (pc := 1) mx_oi_X12_660 mx_oii mx_oic (by decide) (mx_dd dd_X12_init_0 1 (1, .invokespecial 660, 3) rfl) g1 ?_
  refine mx_aload_n (pc := 4) 0 (mx_dd dd_X12_init_0 2 (4, .aload_n 0, 1) rfl) rfl rfl ?_
  refine mx_sipush (pc := 5) (v := (700 : Int32)) (mx_dd dd_X12_init_0 3 (5, .sipush 700, 3) rfl) (by decide) ?_
  refine mx_newa (pc := 8) (N := 700) (kd := 13) (by decide) rfl mx_ac_13 (by decide) (by decide) (by decide) (mx_dd dd_X12_init_0 4 (8, .newarray .byte, 2) rfl) ?_
  have P := P _ _ rfl rfl
  obtain ⟨g2, P⟩ := P
  refine mx_putR (pc := 10) mx_fl_X12_14 g2 rfl (.inr ⟨rfl, rfl, rfl⟩) (mx_dd dd_X12_init_0 5 (10, .putfield 14, 3) rfl) ?_
  have P := P _ rfl
  refine mx_aload_n (pc := 13) 0 (mx_dd dd_X12_init_0 6 (13, .aload_n 0, 1) rfl) rfl rfl ?_
  refine mx_iconst (pc := 14) (v := (5 : Int32)) (mx_dd dd_X12_init_0 7 (14, .iconst 5, 1) rfl) (by decide) ?_
  refine mx_newa (pc := 15) (N := 5) (kd := 14) (by decide) rfl mx_ac_14 (by decide) (by decide) (by decide) (mx_dd dd_X12_init_0 8 (15, .newarray .int, 2) rfl) ?_
  have P := P _ _ rfl rfl
  obtain ⟨g3, P⟩ := P
  refine mx_putR (pc := 17) mx_fl_X12_10 g3 rfl (.inr ⟨rfl, rfl, rfl⟩) (mx_dd dd_X12_init_0 9 (17, .putfield 10, 3) rfl) ?_
  have P := P _ rfl
  refine mx_aload_n (pc := 20) 0 (mx_dd dd_X12_init_0 10 (20, .aload_n 0, 1) rfl) rfl rfl ?_
  refine mx_iconst (pc := 21) (v := (-1 : Int32)) (mx_dd dd_X12_init_0 11 (21, .iconst (-1), 1) rfl) (by decide) ?_
  refine mx_putI (pc := 22) mx_fl_X12_18 g3 rfl (.inl rfl) rfl rfl (mx_dd dd_X12_init_0 12 (22, .putfield 18, 3) rfl) ?_
  have P := P _ rfl
  refine mx_aload_n (pc := 25) 0 (mx_dd dd_X12_init_0 13 (25, .aload_n 0, 1) rfl) rfl rfl ?_
  refine mx_ldcS (pc := 26) (i := 16) rfl (by decide) (mx_dd dd_X12_init_0 14 (26, .ldc 231, 2) rfl) ?_
  refine mx_cSL (pc := 28) (Y := mY_X12_named) (As := [.ref _]) mx_ml_X12_665 mx_y_X12_named rfl rfl (by simp [Value.category]) rfl (mx_dd dd_X12_init_0 15 (28, .invokestatic 665, 3) rfl) g1 (by decide) P (fun v1 h6 P => ?_)
  obtain ⟨g4, P⟩ := P
  refine mx_putL (pc := 31) mx_fl_X12_97 g4 rfl (.inr ⟨rfl, rfl, rfl⟩) (mx_dd dd_X12_init_0 16 (31, .putfield 97, 3) rfl) ?_
  have P := P _ rfl
  refine mx_aload_n (pc := 34) 0 (mx_dd dd_X12_init_0 17 (34, .aload_n 0, 1) rfl) rfl rfl ?_
  refine mx_ldcS (pc := 35) (i := 17) rfl (by decide) (mx_dd dd_X12_init_0 18 (35, .ldc 233, 2) rfl) ?_
  refine mx_cSL (pc := 37) (Y := mY_X12_named) (As := [.ref _]) mx_ml_X12_665 mx_y_X12_named rfl rfl (by simp [Value.category]) rfl (mx_dd dd_X12_init_0 19 (37, .invokestatic 665, 3) rfl) g1 (by decide) P (fun v2 h8 P => ?_)
  obtain ⟨g5, P⟩ := P
  refine mx_putL (pc := 40) mx_fl_X12_101 g5 rfl (.inr ⟨rfl, rfl, rfl⟩) (mx_dd dd_X12_init_0 20 (40, .putfield 101, 3) rfl) ?_
  have P := P _ rfl
  refine mx_aload_n (pc := 43) 0 (mx_dd dd_X12_init_0 21 (43, .aload_n 0, 1) rfl) rfl rfl ?_
  refine mx_ldcS (pc := 44) (i := 18) rfl (by decide) (mx_dd dd_X12_init_0 22 (44, .ldc 235, 2) rfl) ?_
  refine mx_cSL (pc := 46) (Y := mY_X12_named) (As := [.ref _]) mx_ml_X12_665 mx_y_X12_named rfl rfl (by simp [Value.category]) rfl (mx_dd dd_X12_init_0 23 (46, .invokestatic 665, 3) rfl) g1 (by decide) P (fun v3 h10 P => ?_)
  obtain ⟨g6, P⟩ := P
  refine mx_putL (pc := 49) mx_fl_X12_104 g6 rfl (.inr ⟨rfl, rfl, rfl⟩) (mx_dd dd_X12_init_0 24 (49, .putfield 104, 3) rfl) ?_
  have P := P _ rfl
  refine mx_aload_n (pc := 52) 0 (mx_dd dd_X12_init_0 25 (52, .aload_n 0, 1) rfl) rfl rfl ?_
  refine mx_ldcS (pc := 53) (i := 19) rfl (by decide) (mx_dd dd_X12_init_0 26 (53, .ldc 237, 2) rfl) ?_
  refine mx_cSL (pc := 55) (Y := mY_X12_named) (As := [.ref _]) mx_ml_X12_665 mx_y_X12_named rfl rfl (by simp [Value.category]) rfl (mx_dd dd_X12_init_0 27 (55, .invokestatic 665, 3) rfl) g1 (by decide) P (fun v4 h12 P => ?_)
  obtain ⟨g7, P⟩ := P
  refine mx_putL (pc := 58) mx_fl_X12_107 g7 rfl (.inr ⟨rfl, rfl, rfl⟩) (mx_dd dd_X12_init_0 28 (58, .putfield 107, 3) rfl) ?_
  have P := P _ rfl
  refine mx_aload_n (pc := 61) 0 (mx_dd dd_X12_init_0 29 (61, .aload_n 0, 1) rfl) rfl rfl ?_
  refine mx_ldcS (pc := 62) (i := 20) rfl (by decide) (mx_dd dd_X12_init_0 30 (62, .ldc 239, 2) rfl) ?_
  refine mx_cSL (pc := 64) (Y := mY_X12_named) (As := [.ref _]) mx_ml_X12_665 mx_y_X12_named rfl rfl (by simp [Value.category]) rfl (mx_dd dd_X12_init_0 31 (64, .invokestatic 665, 3) rfl) g1 (by decide) P (fun v5 h14 P => ?_)
  obtain ⟨g8, P⟩ := P
  refine mx_putL (pc := 67) mx_fl_X12_110 g8 rfl (.inr ⟨rfl, rfl, rfl⟩) (mx_dd dd_X12_init_0 32 (67, .putfield 110, 3) rfl) ?_
  have P := P _ rfl
  refine mx_aload_n (pc := 70) 0 (mx_dd dd_X12_init_0 33 (70, .aload_n 0, 1) rfl) rfl rfl ?_
  refine mx_ldcS (pc := 71) (i := 21) rfl (by decide) (mx_dd dd_X12_init_0 34 (71, .ldc 241, 2) rfl) ?_
  refine mx_cSL (pc := 73) (Y := mY_X12_named) (As := [.ref _]) mx_ml_X12_665 mx_y_X12_named rfl rfl (by simp [Value.category]) rfl (mx_dd dd_X12_init_0 35 (73, .invokestatic 665, 3) rfl) g1 (by decide) P (fun v6 h16 P => ?_)
  obtain ⟨g9, P⟩ := P
  refine mx_putL (pc := 76) mx_fl_X12_113 g9 rfl (.inr ⟨rfl, rfl, rfl⟩) (mx_dd dd_X12_init_0 36 (76, .putfield 113, 3) rfl) ?_
  have P := P _ rfl
  refine mx_aload_n (pc := 79) 0 (mx_dd dd_X12_init_0 37 (79, .aload_n 0, 1) rfl) rfl rfl ?_
  refine mx_ldcS (pc := 80) (i := 22) rfl (by decide) (mx_dd dd_X12_init_0 38 (80, .ldc 243, 2) rfl) ?_
  refine mx_cSL (pc := 82) (Y := mY_X12_named) (As := [.ref _]) mx_ml_X12_665 mx_y_X12_named rfl rfl (by simp [Value.category]) rfl (mx_dd dd_X12_init_0 39 (82, .invokestatic 665, 3) rfl) g1 (by decide) P (fun v7 h18 P => ?_)
  obtain ⟨g10, P⟩ := P
  refine mx_putL (pc := 85) mx_fl_X12_116 g10 rfl (.inr ⟨rfl, rfl, rfl⟩) (mx_dd dd_X12_init_1 0 (85, .putfield 116, 3) rfl) ?_
  have P := P _ rfl
  refine mx_aload_n (pc := 88) 0 (mx_dd dd_X12_init_1 1 (88, .aload_n 0, 1) rfl) rfl rfl ?_
  refine mx_ldcS (pc := 89) (i := 23) rfl (by decide) (mx_dd dd_X12_init_1 2 (89, .ldc 245, 2) rfl) ?_
  refine mx_cSL (pc := 91) (Y := mY_X12_named) (As := [.ref _]) mx_ml_X12_665 mx_y_X12_named rfl rfl (by simp [Value.category]) rfl (mx_dd dd_X12_init_1 3 (91, .invokestatic 665, 3) rfl) g1 (by decide) P (fun v8 h20 P => ?_)
  obtain ⟨g11, P⟩ := P
  refine mx_putL (pc := 94) mx_fl_X12_119 g11 rfl (.inr ⟨rfl, rfl, rfl⟩) (mx_dd dd_X12_init_1 4 (94, .putfield 119, 3) rfl) ?_
  have P := P _ rfl
  refine mx_aload_n (pc := 97) 0 (mx_dd dd_X12_init_1 5 (97, .aload_n 0, 1) rfl) rfl rfl ?_
  refine mx_ldcS (pc := 98) (i := 24) rfl (by decide) (mx_dd dd_X12_init_1 6 (98, .ldc 247, 2) rfl) ?_
  refine mx_cSL (pc := 100) (Y := mY_X12_named) (As := [.ref _]) mx_ml_X12_665 mx_y_X12_named rfl rfl (by simp [Value.category]) rfl (mx_dd dd_X12_init_1 7 (100, .invokestatic 665, 3) rfl) g1 (by decide) P (fun v9 h22 P => ?_)
  obtain ⟨g12, P⟩ := P
  refine mx_putL (pc := 103) mx_fl_X12_122 g12 rfl (.inr ⟨rfl, rfl, rfl⟩) (mx_dd dd_X12_init_1 8 (103, .putfield 122, 3) rfl) ?_
  have P := P _ rfl
  refine mx_aload_n (pc := 106) 0 (mx_dd dd_X12_init_1 9 (106, .aload_n 0, 1) rfl) rfl rfl ?_
  refine mx_ldcS (pc := 107) (i := 25) rfl (by decide) (mx_dd dd_X12_init_1 10 (107, .ldc 249, 2) rfl) ?_
  refine mx_cSL (pc := 109) (Y := mY_X12_named) (As := [.ref _]) mx_ml_X12_665 mx_y_X12_named rfl rfl (by simp [Value.category]) rfl (mx_dd dd_X12_init_1 11 (109, .invokestatic 665, 3) rfl) g1 (by decide) P (fun v10 h24 P => ?_)
  obtain ⟨g13, P⟩ := P
  refine mx_putL (pc := 112) mx_fl_X12_125 g13 rfl (.inr ⟨rfl, rfl, rfl⟩) (mx_dd dd_X12_init_1 12 (112, .putfield 125, 3) rfl) ?_
  have P := P _ rfl
  refine mx_aload_n (pc := 115) 0 (mx_dd dd_X12_init_1 13 (115, .aload_n 0, 1) rfl) rfl rfl ?_
  refine mx_ldcS (pc := 116) (i := 26) rfl (by decide) (mx_dd dd_X12_init_1 14 (116, .ldc 251, 2) rfl) ?_
  refine mx_cSL (pc := 118) (Y := mY_X12_named) (As := [.ref _]) mx_ml_X12_665 mx_y_X12_named rfl rfl (by simp [Value.category]) rfl (mx_dd dd_X12_init_1 15 (118, .invokestatic 665, 3) rfl) g1 (by decide) P (fun v11 h26 P => ?_)
  obtain ⟨g14, P⟩ := P
  refine mx_putL (pc := 121) mx_fl_X12_128 g14 rfl (.inr ⟨rfl, rfl, rfl⟩) (mx_dd dd_X12_init_1 16 (121, .putfield 128, 3) rfl) ?_
  have P := P _ rfl
  refine mx_aload_n (pc := 124) 0 (mx_dd dd_X12_init_1 17 (124, .aload_n 0, 1) rfl) rfl rfl ?_
  refine mx_ldcS (pc := 125) (i := 27) rfl (by decide) (mx_dd dd_X12_init_1 18 (125, .ldc 253, 2) rfl) ?_
  refine mx_cSL (pc := 127) (Y := mY_X12_named) (As := [.ref _]) mx_ml_X12_665 mx_y_X12_named rfl rfl (by simp [Value.category]) rfl (mx_dd dd_X12_init_1 19 (127, .invokestatic 665, 3) rfl) g1 (by decide) P (fun v12 h28 P => ?_)
  obtain ⟨g15, P⟩ := P
  refine mx_putL (pc := 130) mx_fl_X12_131 g15 rfl (.inr ⟨rfl, rfl, rfl⟩) (mx_dd dd_X12_init_1 20 (130, .putfield 131, 3) rfl) ?_
  have P := P _ rfl
  refine mx_aload_n (pc := 133) 0 (mx_dd dd_X12_init_1 21 (133, .aload_n 0, 1) rfl) rfl rfl ?_
  refine mx_ldcwS (pc := 134) (i := 28) rfl (by decide) (mx_dd dd_X12_init_1 22 (134, .ldc_w 669, 3) rfl) ?_
  refine mx_cSL (pc := 137) (Y := mY_X12_named) (As := [.ref _]) mx_ml_X12_665 mx_y_X12_named rfl rfl (by simp [Value.category]) rfl (mx_dd dd_X12_init_1 23 (137, .invokestatic 665, 3) rfl) g1 (by decide) P (fun v13 h30 P => ?_)
  obtain ⟨g16, P⟩ := P
  refine mx_putL (pc := 140) mx_fl_X12_633 g16 rfl (.inr ⟨rfl, rfl, rfl⟩) (mx_dd dd_X12_init_1 24 (140, .putfield 633, 3) rfl) ?_
  have P := P _ rfl
  refine mx_aload_n (pc := 143) 0 (mx_dd dd_X12_init_1 25 (143, .aload_n 0, 1) rfl) rfl rfl ?_
  refine mx_ldcwS (pc := 144) (i := 29) rfl (by decide) (mx_dd dd_X12_init_1 26 (144, .ldc_w 671, 3) rfl) ?_
  refine mx_cSL (pc := 147) (Y := mY_X12_named) (As := [.ref _]) mx_ml_X12_665 mx_y_X12_named rfl rfl (by simp [Value.category]) rfl (mx_dd dd_X12_init_1 27 (147, .invokestatic 665, 3) rfl) g1 (by decide) P (fun v14 h32 P => ?_)
  obtain ⟨g17, P⟩ := P
  refine mx_putL (pc := 150) mx_fl_X12_636 g17 rfl (.inr ⟨rfl, rfl, rfl⟩) (mx_dd dd_X12_init_1 28 (150, .putfield 636, 3) rfl) ?_
  have P := P _ rfl
  refine mx_aload_n (pc := 153) 0 (mx_dd dd_X12_init_1 29 (153, .aload_n 0, 1) rfl) rfl rfl ?_
  refine mx_ldcwS (pc := 154) (i := 30) rfl (by decide) (mx_dd dd_X12_init_1 30 (154, .ldc_w 673, 3) rfl) ?_
  refine mx_cSL (pc := 157) (Y := mY_X12_named) (As := [.ref _]) mx_ml_X12_665 mx_y_X12_named rfl rfl (by simp [Value.category]) rfl (mx_dd dd_X12_init_1 31 (157, .invokestatic 665, 3) rfl) g1 (by decide) P (fun v15 h34 P => ?_)
  obtain ⟨g18, P⟩ := P
  refine mx_putL (pc := 160) mx_fl_X12_639 g18 rfl (.inr ⟨rfl, rfl, rfl⟩) (mx_dd dd_X12_init_1 32 (160, .putfield 639, 3) rfl) ?_
  have P := P _ rfl
  refine mx_aload_n (pc := 163) 0 (mx_dd dd_X12_init_1 33 (163, .aload_n 0, 1) rfl) rfl rfl ?_
  refine mx_ldcwS (pc := 164) (i := 31) rfl (by decide) (mx_dd dd_X12_init_1 34 (164, .ldc_w 675, 3) rfl) ?_
  refine mx_cSL (pc := 167) (Y := mY_X12_named) (As := [.ref _]) mx_ml_X12_665 mx_y_X12_named rfl rfl (by simp [Value.category]) rfl (mx_dd dd_X12_init_1 35 (167, .invokestatic 665, 3) rfl) g1 (by decide) P (fun v16 h36 P => ?_)
  obtain ⟨g19, P⟩ := P
  refine mx_putL (pc := 170) mx_fl_X12_645 g19 rfl (.inr ⟨rfl, rfl, rfl⟩) (mx_dd dd_X12_init_1 36 (170, .putfield 645, 3) rfl) ?_
  have P := P _ rfl
  refine mx_aload_n (pc := 173) 0 (mx_dd dd_X12_init_1 37 (173, .aload_n 0, 1) rfl) rfl rfl ?_
  refine mx_ldcwS (pc := 174) (i := 32) rfl (by decide) (mx_dd dd_X12_init_1 38 (174, .ldc_w 677, 3) rfl) ?_
  refine mx_cSL (pc := 177) (Y := mY_X12_named) (As := [.ref _]) mx_ml_X12_665 mx_y_X12_named rfl rfl (by simp [Value.category]) rfl (mx_dd dd_X12_init_1 39 (177, .invokestatic 665, 3) rfl) g1 (by decide) P (fun v17 h38 P => ?_)
  obtain ⟨g20, P⟩ := P
  refine mx_putL (pc := 180) mx_fl_X12_648 g20 rfl (.inr ⟨rfl, rfl, rfl⟩) (mx_dd dd_X12_init_2 0 (180, .putfield 648, 3) rfl) ?_
  have P := P _ rfl
  refine mx_aload_n (pc := 183) 0 (mx_dd dd_X12_init_2 1 (183, .aload_n 0, 1) rfl) rfl rfl ?_
  refine mx_ldcwS (pc := 184) (i := 33) rfl (by decide) (mx_dd dd_X12_init_2 2 (184, .ldc_w 679, 3) rfl) ?_
  refine mx_cSL (pc := 187) (Y := mY_X12_named) (As := [.ref _]) mx_ml_X12_665 mx_y_X12_named rfl rfl (by simp [Value.category]) rfl (mx_dd dd_X12_init_2 3 (187, .invokestatic 665, 3) rfl) g1 (by decide) P (fun v18 h40 P => ?_)
  obtain ⟨g21, P⟩ := P
  refine mx_putL (pc := 190) mx_fl_X12_651 g21 rfl (.inr ⟨rfl, rfl, rfl⟩) (mx_dd dd_X12_init_2 4 (190, .putfield 651, 3) rfl) ?_
  have P := P _ rfl
  refine mx_aload_n (pc := 193) 0 (mx_dd dd_X12_init_2 5 (193, .aload_n 0, 1) rfl) rfl rfl ?_
  refine mx_ldcwS (pc := 194) (i := 34) rfl (by decide) (mx_dd dd_X12_init_2 6 (194, .ldc_w 681, 3) rfl) ?_
  refine mx_cSL (pc := 197) (Y := mY_X12_named) (As := [.ref _]) mx_ml_X12_665 mx_y_X12_named rfl rfl (by simp [Value.category]) rfl (mx_dd dd_X12_init_2 7 (197, .invokestatic 665, 3) rfl) g1 (by decide) P (fun v19 h42 P => ?_)
  obtain ⟨g22, P⟩ := P
  refine mx_putL (pc := 200) mx_fl_X12_654 g22 rfl (.inr ⟨rfl, rfl, rfl⟩) (mx_dd dd_X12_init_2 8 (200, .putfield 654, 3) rfl) ?_
  have P := P _ rfl
  refine mx_aload_n (pc := 203) 0 (mx_dd dd_X12_init_2 9 (203, .aload_n 0, 1) rfl) rfl rfl ?_
  refine mx_ldcwS (pc := 204) (i := 35) rfl (by decide) (mx_dd dd_X12_init_2 10 (204, .ldc_w 683, 3) rfl) ?_
  refine mx_cSL (pc := 207) (Y := mY_X12_named) (As := [.ref _]) mx_ml_X12_665 mx_y_X12_named rfl rfl (by simp [Value.category]) rfl (mx_dd dd_X12_init_2 11 (207, .invokestatic 665, 3) rfl) g1 (by decide) P (fun v20 h44 P => ?_)
  obtain ⟨g23, P⟩ := P
  refine mx_putL (pc := 210) mx_fl_X12_657 g23 rfl (.inr ⟨rfl, rfl, rfl⟩) (mx_dd dd_X12_init_2 12 (210, .putfield 657, 3) rfl) ?_
  have P := P _ rfl
  refine mx_aload_n (pc := 213) 0 (mx_dd dd_X12_init_2 13 (213, .aload_n 0, 1) rfl) rfl rfl ?_
  refine mx_sipush (pc := 214) (v := (3000 : Int32)) (mx_dd dd_X12_init_2 14 (214, .sipush 3000, 3) rfl) (by decide) ?_
  refine mx_newa (pc := 217) (N := 3000) (kd := 14) (by decide) rfl mx_ac_14 (by decide) (by decide) (by decide) (mx_dd dd_X12_init_2 15 (217, .newarray .int, 2) rfl) ?_
  have P := P _ _ rfl rfl
  obtain ⟨g24, P⟩ := P
  refine mx_putR (pc := 219) mx_fl_X12_278 g24 rfl (.inr ⟨rfl, rfl, rfl⟩) (mx_dd dd_X12_init_2 16 (219, .putfield 278, 3) rfl) ?_
  have P := P _ rfl
  refine mx_aload_n (pc := 222) 0 (mx_dd dd_X12_init_2 17 (222, .aload_n 0, 1) rfl) rfl rfl ?_
  refine mx_sipush (pc := 223) (v := (3000 : Int32)) (mx_dd dd_X12_init_2 18 (223, .sipush 3000, 3) rfl) (by decide) ?_
  refine mx_newa (pc := 226) (N := 3000) (kd := 14) (by decide) rfl mx_ac_14 (by decide) (by decide) (by decide) (mx_dd dd_X12_init_2 19 (226, .newarray .int, 2) rfl) ?_
  have P := P _ _ rfl rfl
  obtain ⟨g25, P⟩ := P
  refine mx_putR (pc := 228) mx_fl_X12_281 g25 rfl (.inr ⟨rfl, rfl, rfl⟩) (mx_dd dd_X12_init_2 20 (228, .putfield 281, 3) rfl) ?_
  have P := P _ rfl
  refine mx_aload_n (pc := 231) 0 (mx_dd dd_X12_init_2 21 (231, .aload_n 0, 1) rfl) rfl rfl ?_
  refine mx_sipush (pc := 232) (v := (3000 : Int32)) (mx_dd dd_X12_init_2 22 (232, .sipush 3000, 3) rfl) (by decide) ?_
  refine mx_newa (pc := 235) (N := 3000) (kd := 14) (by decide) rfl mx_ac_14 (by decide) (by decide) (by decide) (mx_dd dd_X12_init_2 23 (235, .newarray .int, 2) rfl) ?_
  have P := P _ _ rfl rfl
  obtain ⟨g26, P⟩ := P
  refine mx_putR (pc := 237) mx_fl_X12_284 g26 rfl (.inr ⟨rfl, rfl, rfl⟩) (mx_dd dd_X12_init_2 24 (237, .putfield 284, 3) rfl) ?_
  have P := P _ rfl
  refine mx_aload_n (pc := 240) 0 (mx_dd dd_X12_init_2 25 (240, .aload_n 0, 1) rfl) rfl rfl ?_
  refine mx_sipush (pc := 241) (v := (3000 : Int32)) (mx_dd dd_X12_init_2 26 (241, .sipush 3000, 3) rfl) (by decide) ?_
  refine mx_newa (pc := 244) (N := 3000) (kd := 14) (by decide) rfl mx_ac_14 (by decide) (by decide) (by decide) (mx_dd dd_X12_init_2 27 (244, .newarray .int, 2) rfl) ?_
  have P := P _ _ rfl rfl
  obtain ⟨g27, P⟩ := P
  refine mx_putR (pc := 246) mx_fl_X12_287 g27 rfl (.inr ⟨rfl, rfl, rfl⟩) (mx_dd dd_X12_init_2 28 (246, .putfield 287, 3) rfl) ?_
  have P := P _ rfl
  refine mx_aload_n (pc := 249) 0 (mx_dd dd_X12_init_2 29 (249, .aload_n 0, 1) rfl) rfl rfl ?_
  refine mx_sipush (pc := 250) (v := (3000 : Int32)) (mx_dd dd_X12_init_2 30 (250, .sipush 3000, 3) rfl) (by decide) ?_
  refine mx_newa (pc := 253) (N := 3000) (kd := 14) (by decide) rfl mx_ac_14 (by decide) (by decide) (by decide) (mx_dd dd_X12_init_2 31 (253, .newarray .int, 2) rfl) ?_
  have P := P _ _ rfl rfl
  obtain ⟨g28, P⟩ := P
  refine mx_putR (pc := 255) mx_fl_X12_290 g28 rfl (.inr ⟨rfl, rfl, rfl⟩) (mx_dd dd_X12_init_2 32 (255, .putfield 290, 3) rfl) ?_
  have P := P _ rfl
  refine mx_aload_n (pc := 258) 0 (mx_dd dd_X12_init_2 33 (258, .aload_n 0, 1) rfl) rfl rfl ?_
  refine mx_sipush (pc := 259) (v := (3000 : Int32)) (mx_dd dd_X12_init_2 34 (259, .sipush 3000, 3) rfl) (by decide) ?_
  refine mx_newa (pc := 262) (N := 3000) (kd := 14) (by decide) rfl mx_ac_14 (by decide) (by decide) (by decide) (mx_dd dd_X12_init_2 35 (262, .newarray .int, 2) rfl) ?_
  have P := P _ _ rfl rfl
  obtain ⟨g29, P⟩ := P
  refine mx_putR (pc := 264) mx_fl_X12_293 g29 rfl (.inr ⟨rfl, rfl, rfl⟩) (mx_dd dd_X12_init_2 36 (264, .putfield 293, 3) rfl) ?_
  have P := P _ rfl
  refine mx_aload_n (pc := 267) 0 (mx_dd dd_X12_init_2 37 (267, .aload_n 0, 1) rfl) rfl rfl ?_
  refine mx_sipush (pc := 268) (v := (3000 : Int32)) (mx_dd dd_X12_init_2 38 (268, .sipush 3000, 3) rfl) (by decide) ?_
  refine mx_newa (pc := 271) (N := 3000) (kd := 14) (by decide) rfl mx_ac_14 (by decide) (by decide) (by decide) (mx_dd dd_X12_init_2 39 (271, .newarray .int, 2) rfl) ?_
  have P := P _ _ rfl rfl
  obtain ⟨g30, P⟩ := P
  refine mx_putR (pc := 273) mx_fl_X12_296 g30 rfl (.inr ⟨rfl, rfl, rfl⟩) (mx_dd dd_X12_init_3 0 (273, .putfield 296, 3) rfl) ?_
  have P := P _ rfl
  refine mx_aload_n (pc := 276) 0 (mx_dd dd_X12_init_3 1 (276, .aload_n 0, 1) rfl) rfl rfl ?_
  refine mx_sipush (pc := 277) (v := (3000 : Int32)) (mx_dd dd_X12_init_3 2 (277, .sipush 3000, 3) rfl) (by decide) ?_
  refine mx_newa (pc := 280) (N := 3000) (kd := 15) (by decide) rfl mx_ac_15 (by decide) (by decide) (by decide) (mx_dd dd_X12_init_3 3 (280, .newarray .long, 2) rfl) ?_
  have P := P _ _ rfl rfl
  obtain ⟨g31, P⟩ := P
  refine mx_putR (pc := 282) mx_fl_X12_299 g31 rfl (.inr ⟨rfl, rfl, rfl⟩) (mx_dd dd_X12_init_3 4 (282, .putfield 299, 3) rfl) ?_
  have P := P _ rfl
  refine mx_aload_n (pc := 285) 0 (mx_dd dd_X12_init_3 5 (285, .aload_n 0, 1) rfl) rfl rfl ?_
  refine mx_sipush (pc := 286) (v := (3000 : Int32)) (mx_dd dd_X12_init_3 6 (286, .sipush 3000, 3) rfl) (by decide) ?_
  refine mx_newa (pc := 289) (N := 3000) (kd := 14) (by decide) rfl mx_ac_14 (by decide) (by decide) (by decide) (mx_dd dd_X12_init_3 7 (289, .newarray .int, 2) rfl) ?_
  have P := P _ _ rfl rfl
  obtain ⟨g32, P⟩ := P
  refine mx_putR (pc := 291) mx_fl_X12_137 g32 rfl (.inr ⟨rfl, rfl, rfl⟩) (mx_dd dd_X12_init_3 8 (291, .putfield 137, 3) rfl) ?_
  have P := P _ rfl
  refine mx_aload_n (pc := 294) 0 (mx_dd dd_X12_init_3 9 (294, .aload_n 0, 1) rfl) rfl rfl ?_
  refine mx_sipush (pc := 295) (v := (3000 : Int32)) (mx_dd dd_X12_init_3 10 (295, .sipush 3000, 3) rfl) (by decide) ?_
  refine mx_newa (pc := 298) (N := 3000) (kd := 14) (by decide) rfl mx_ac_14 (by decide) (by decide) (by decide) (mx_dd dd_X12_init_3 11 (298, .newarray .int, 2) rfl) ?_
  have P := P _ _ rfl rfl
  obtain ⟨g33, P⟩ := P
  refine mx_putR (pc := 300) mx_fl_X12_140 g33 rfl (.inr ⟨rfl, rfl, rfl⟩) (mx_dd dd_X12_init_3 12 (300, .putfield 140, 3) rfl) ?_
  have P := P _ rfl
  refine mx_aload_n (pc := 303) 0 (mx_dd dd_X12_init_3 13 (303, .aload_n 0, 1) rfl) rfl rfl ?_
  refine mx_sipush (pc := 304) (v := (3000 : Int32)) (mx_dd dd_X12_init_3 14 (304, .sipush 3000, 3) rfl) (by decide) ?_
  refine mx_newa (pc := 307) (N := 3000) (kd := 14) (by decide) rfl mx_ac_14 (by decide) (by decide) (by decide) (mx_dd dd_X12_init_3 15 (307, .newarray .int, 2) rfl) ?_
  have P := P _ _ rfl rfl
  obtain ⟨g34, P⟩ := P
  refine mx_putR (pc := 309) mx_fl_X12_143 g34 rfl (.inr ⟨rfl, rfl, rfl⟩) (mx_dd dd_X12_init_3 16 (309, .putfield 143, 3) rfl) ?_
  have P := P _ rfl
  refine mx_aload_n (pc := 312) 0 (mx_dd dd_X12_init_3 17 (312, .aload_n 0, 1) rfl) rfl rfl ?_
  refine mx_sipush (pc := 313) (v := (3000 : Int32)) (mx_dd dd_X12_init_3 18 (313, .sipush 3000, 3) rfl) (by decide) ?_
  refine mx_newa (pc := 316) (N := 3000) (kd := 14) (by decide) rfl mx_ac_14 (by decide) (by decide) (by decide) (mx_dd dd_X12_init_3 19 (316, .newarray .int, 2) rfl) ?_
  have P := P _ _ rfl rfl
  obtain ⟨g35, P⟩ := P
  refine mx_putR (pc := 318) mx_fl_X12_146 g35 rfl (.inr ⟨rfl, rfl, rfl⟩) (mx_dd dd_X12_init_3 20 (318, .putfield 146, 3) rfl) ?_
  have P := P _ rfl
  refine mx_aload_n (pc := 321) 0 (mx_dd dd_X12_init_3 21 (321, .aload_n 0, 1) rfl) rfl rfl ?_
  refine mx_sipush (pc := 322) (v := (3000 : Int32)) (mx_dd dd_X12_init_3 22 (322, .sipush 3000, 3) rfl) (by decide) ?_
  refine mx_newa (pc := 325) (N := 3000) (kd := 14) (by decide) rfl mx_ac_14 (by decide) (by decide) (by decide) (mx_dd dd_X12_init_3 23 (325, .newarray .int, 2) rfl) ?_
  have P := P _ _ rfl rfl
  obtain ⟨g36, P⟩ := P
  refine mx_putR (pc := 327) mx_fl_X12_149 g36 rfl (.inr ⟨rfl, rfl, rfl⟩) (mx_dd dd_X12_init_3 24 (327, .putfield 149, 3) rfl) ?_
  have P := P _ rfl
  refine mx_aload_n (pc := 330) 0 (mx_dd dd_X12_init_3 25 (330, .aload_n 0, 1) rfl) rfl rfl ?_
  refine mx_sipush (pc := 331) (v := (3000 : Int32)) (mx_dd dd_X12_init_3 26 (331, .sipush 3000, 3) rfl) (by decide) ?_
  refine mx_newa (pc := 334) (N := 3000) (kd := 14) (by decide) rfl mx_ac_14 (by decide) (by decide) (by decide) (mx_dd dd_X12_init_3 27 (334, .newarray .int, 2) rfl) ?_
  have P := P _ _ rfl rfl
  obtain ⟨g37, P⟩ := P
  refine mx_putR (pc := 336) mx_fl_X12_152 g37 rfl (.inr ⟨rfl, rfl, rfl⟩) (mx_dd dd_X12_init_3 28 (336, .putfield 152, 3) rfl) ?_
  have P := P _ rfl
  refine mx_aload_n (pc := 339) 0 (mx_dd dd_X12_init_3 29 (339, .aload_n 0, 1) rfl) rfl rfl ?_
  refine mx_sipush (pc := 340) (v := (3000 : Int32)) (mx_dd dd_X12_init_3 30 (340, .sipush 3000, 3) rfl) (by decide) ?_
  refine mx_newa (pc := 343) (N := 3000) (kd := 14) (by decide) rfl mx_ac_14 (by decide) (by decide) (by decide) (mx_dd dd_X12_init_3 31 (343, .newarray .int, 2) rfl) ?_
  have P := P _ _ rfl rfl
  obtain ⟨g38, P⟩ := P
  refine mx_putR (pc := 345) mx_fl_X12_155 g38 rfl (.inr ⟨rfl, rfl, rfl⟩) (mx_dd dd_X12_init_3 32 (345, .putfield 155, 3) rfl) ?_
  have P := P _ rfl
  refine mx_aload_n (pc := 348) 0 (mx_dd dd_X12_init_3 33 (348, .aload_n 0, 1) rfl) rfl rfl ?_
  refine mx_sipush (pc := 349) (v := (3000 : Int32)) (mx_dd dd_X12_init_3 34 (349, .sipush 3000, 3) rfl) (by decide) ?_
  refine mx_newa (pc := 352) (N := 3000) (kd := 15) (by decide) rfl mx_ac_15 (by decide) (by decide) (by decide) (mx_dd dd_X12_init_3 35 (352, .newarray .long, 2) rfl) ?_
  have P := P _ _ rfl rfl
  obtain ⟨g39, P⟩ := P
  refine mx_putR (pc := 354) mx_fl_X12_158 g39 rfl (.inr ⟨rfl, rfl, rfl⟩) (mx_dd dd_X12_init_3 36 (354, .putfield 158, 3) rfl) ?_
  have P := P _ rfl
  refine mx_aload_n (pc := 357) 0 (mx_dd dd_X12_init_3 37 (357, .aload_n 0, 1) rfl) rfl rfl ?_
  refine mx_ldcw (pc := 358) mx_ci_X12_685 (mx_dd dd_X12_init_3 38 (358, .ldc_w 685, 3) rfl) ?_
  refine mx_newa (pc := 361) (N := 352000) (kd := 13) (by decide) rfl mx_ac_13 (by decide) (by decide) (by decide) (mx_dd dd_X12_init_3 39 (361, .newarray .byte, 2) rfl) ?_
  have P := P _ _ rfl rfl
  obtain ⟨g40, P⟩ := P
  refine mx_putR (pc := 363) mx_fl_X12_358 g40 rfl (.inr ⟨rfl, rfl, rfl⟩) (mx_dd dd_X12_init_4 0 (363, .putfield 358, 3) rfl) ?_
  have P := P _ rfl
  refine mx_aload_n (pc := 366) 0 (mx_dd dd_X12_init_4 1 (366, .aload_n 0, 1) rfl) rfl rfl ?_
  refine mx_sipush (pc := 367) (v := (4400 : Int32)) (mx_dd dd_X12_init_4 2 (367, .sipush 4400, 3) rfl) (by decide) ?_
  refine mx_newa (pc := 370) (N := 4400) (kd := 14) (by decide) rfl mx_ac_14 (by decide) (by decide) (by decide) (mx_dd dd_X12_init_4 3 (370, .newarray .int, 2) rfl) ?_
  have P := P _ _ rfl rfl
  obtain ⟨g41, P⟩ := P
  refine mx_putR (pc := 372) mx_fl_X12_355 g41 rfl (.inr ⟨rfl, rfl, rfl⟩) (mx_dd dd_X12_init_4 4 (372, .putfield 355, 3) rfl) ?_
  have P := P _ rfl
  refine mx_aload_n (pc := 375) 0 (mx_dd dd_X12_init_4 5 (375, .aload_n 0, 1) rfl) rfl rfl ?_
  refine mx_sipush (pc := 376) (v := (4400 : Int32)) (mx_dd dd_X12_init_4 6 (376, .sipush 4400, 3) rfl) (by decide) ?_
  refine mx_newa (pc := 379) (N := 4400) (kd := 16) (by decide) rfl mx_ac_16 (by decide) (by decide) (by decide) (mx_dd dd_X12_init_4 7 (379, .newarray .boolean, 2) rfl) ?_
  have P := P _ _ rfl rfl
  obtain ⟨g42, P⟩ := P
  refine mx_putR (pc := 381) mx_fl_X12_308 g42 rfl (.inr ⟨rfl, rfl, rfl⟩) (mx_dd dd_X12_init_4 8 (381, .putfield 308, 3) rfl) ?_
  have P := P _ rfl
  refine mx_aload_n (pc := 384) 0 (mx_dd dd_X12_init_4 9 (384, .aload_n 0, 1) rfl) rfl rfl ?_
  refine mx_sipush (pc := 385) (v := (471 : Int32)) (mx_dd dd_X12_init_4 10 (385, .sipush 471, 3) rfl) (by decide) ?_
  refine mx_newa (pc := 388) (N := 471) (kd := 14) (by decide) rfl mx_ac_14 (by decide) (by decide) (by decide) (mx_dd dd_X12_init_4 11 (388, .newarray .int, 2) rfl) ?_
  have P := P _ _ rfl rfl
  obtain ⟨g43, P⟩ := P
  refine mx_putR (pc := 390) mx_fl_X12_312 g43 rfl (.inr ⟨rfl, rfl, rfl⟩) (mx_dd dd_X12_init_4 12 (390, .putfield 312, 3) rfl) ?_
  have P := P _ rfl
  refine mx_aload_n (pc := 393) 0 (mx_dd dd_X12_init_4 13 (393, .aload_n 0, 1) rfl) rfl rfl ?_
  refine mx_bipush (pc := 394) (v := (8 : Int32)) (mx_dd dd_X12_init_4 14 (394, .bipush 8, 2) rfl) (by decide) ?_
  refine mx_newa (pc := 396) (N := 8) (kd := 15) (by decide) rfl mx_ac_15 (by decide) (by decide) (by decide) (mx_dd dd_X12_init_4 15 (396, .newarray .long, 2) rfl) ?_
  have P := P _ _ rfl rfl
  obtain ⟨g44, P⟩ := P
  refine mx_putR (pc := 398) mx_fl_X12_361 g44 rfl (.inr ⟨rfl, rfl, rfl⟩) (mx_dd dd_X12_init_4 16 (398, .putfield 361, 3) rfl) ?_
  have P := P _ rfl
  refine mx_aload_n (pc := 401) 0 (mx_dd dd_X12_init_4 17 (401, .aload_n 0, 1) rfl) rfl rfl ?_
  refine mx_sipush (pc := 402) (v := (4000 : Int32)) (mx_dd dd_X12_init_4 18 (402, .sipush 4000, 3) rfl) (by decide) ?_
  refine mx_newa (pc := 405) (N := 4000) (kd := 14) (by decide) rfl mx_ac_14 (by decide) (by decide) (by decide) (mx_dd dd_X12_init_4 19 (405, .newarray .int, 2) rfl) ?_
  have P := P _ _ rfl rfl
  obtain ⟨g45, P⟩ := P
  refine mx_putR (pc := 407) mx_fl_X12_380 g45 rfl (.inr ⟨rfl, rfl, rfl⟩) (mx_dd dd_X12_init_4 20 (407, .putfield 380, 3) rfl) ?_
  have P := P _ rfl
  refine mx_aload_n (pc := 410) 0 (mx_dd dd_X12_init_4 21 (410, .aload_n 0, 1) rfl) rfl rfl ?_
  refine mx_sipush (pc := 411) (v := (4000 : Int32)) (mx_dd dd_X12_init_4 22 (411, .sipush 4000, 3) rfl) (by decide) ?_
  refine mx_newa (pc := 414) (N := 4000) (kd := 14) (by decide) rfl mx_ac_14 (by decide) (by decide) (by decide) (mx_dd dd_X12_init_4 23 (414, .newarray .int, 2) rfl) ?_
  have P := P _ _ rfl rfl
  obtain ⟨g46, P⟩ := P
  refine mx_putR (pc := 416) mx_fl_X12_389 g46 rfl (.inr ⟨rfl, rfl, rfl⟩) (mx_dd dd_X12_init_4 24 (416, .putfield 389, 3) rfl) ?_
  have P := P _ rfl
  refine mx_aload_n (pc := 419) 0 (mx_dd dd_X12_init_4 25 (419, .aload_n 0, 1) rfl) rfl rfl ?_
  refine mx_sipush (pc := 420) (v := (4000 : Int32)) (mx_dd dd_X12_init_4 26 (420, .sipush 4000, 3) rfl) (by decide) ?_
  refine mx_newa (pc := 423) (N := 4000) (kd := 14) (by decide) rfl mx_ac_14 (by decide) (by decide) (by decide) (mx_dd dd_X12_init_4 27 (423, .newarray .int, 2) rfl) ?_
  have P := P _ _ rfl rfl
  obtain ⟨g47, P⟩ := P
  refine mx_putR (pc := 425) mx_fl_X12_392 g47 rfl (.inr ⟨rfl, rfl, rfl⟩) (mx_dd dd_X12_init_4 28 (425, .putfield 392, 3) rfl) ?_
  have P := P _ rfl
  refine mx_aload_n (pc := 428) 0 (mx_dd dd_X12_init_4 29 (428, .aload_n 0, 1) rfl) rfl rfl ?_
  refine mx_sipush (pc := 429) (v := (400 : Int32)) (mx_dd dd_X12_init_4 30 (429, .sipush 400, 3) rfl) (by decide) ?_
  refine mx_newa (pc := 432) (N := 400) (kd := 14) (by decide) rfl mx_ac_14 (by decide) (by decide) (by decide) (mx_dd dd_X12_init_4 31 (432, .newarray .int, 2) rfl) ?_
  have P := P _ _ rfl rfl
  obtain ⟨g48, P⟩ := P
  refine mx_putR (pc := 434) mx_fl_X12_325 g48 rfl (.inr ⟨rfl, rfl, rfl⟩) (mx_dd dd_X12_init_4 32 (434, .putfield 325, 3) rfl) ?_
  have P := P _ rfl
  refine mx_aload_n (pc := 437) 0 (mx_dd dd_X12_init_4 33 (437, .aload_n 0, 1) rfl) rfl rfl ?_
  refine mx_sipush (pc := 438) (v := (400 : Int32)) (mx_dd dd_X12_init_4 34 (438, .sipush 400, 3) rfl) (by decide) ?_
  refine mx_newa (pc := 441) (N := 400) (kd := 14) (by decide) rfl mx_ac_14 (by decide) (by decide) (by decide) (mx_dd dd_X12_init_4 35 (441, .newarray .int, 2) rfl) ?_
  have P := P _ _ rfl rfl
  obtain ⟨g49, P⟩ := P
  refine mx_putR (pc := 443) mx_fl_X12_398 g49 rfl (.inr ⟨rfl, rfl, rfl⟩) (mx_dd dd_X12_init_4 36 (443, .putfield 398, 3) rfl) ?_
  have P := P _ rfl
  refine mx_aload_n (pc := 446) 0 (mx_dd dd_X12_init_4 37 (446, .aload_n 0, 1) rfl) rfl rfl ?_
  refine mx_sipush (pc := 447) (v := (400 : Int32)) (mx_dd dd_X12_init_4 38 (447, .sipush 400, 3) rfl) (by decide) ?_
  refine mx_newa (pc := 450) (N := 400) (kd := 16) (by decide) rfl mx_ac_16 (by decide) (by decide) (by decide) (mx_dd dd_X12_init_4 39 (450, .newarray .boolean, 2) rfl) ?_
  have P := P _ _ rfl rfl
  obtain ⟨g50, P⟩ := P
  refine mx_putR (pc := 452) mx_fl_X12_395 g50 rfl (.inr ⟨rfl, rfl, rfl⟩) (mx_dd dd_X12_init_5 0 (452, .putfield 395, 3) rfl) ?_
  have P := P _ rfl
  refine mx_aload_n (pc := 455) 0 (mx_dd dd_X12_init_5 1 (455, .aload_n 0, 1) rfl) rfl rfl ?_
  refine mx_sipush (pc := 456) (v := (13000 : Int32)) (mx_dd dd_X12_init_5 2 (456, .sipush 13000, 3) rfl) (by decide) ?_
  refine mx_newa (pc := 459) (N := 13000) (kd := 14) (by decide) rfl mx_ac_14 (by decide) (by decide) (by decide) (mx_dd dd_X12_init_5 3 (459, .newarray .int, 2) rfl) ?_
  have P := P _ _ rfl rfl
  obtain ⟨g51, P⟩ := P
  refine mx_putR (pc := 461) mx_fl_X12_328 g51 rfl (.inr ⟨rfl, rfl, rfl⟩) (mx_dd dd_X12_init_5 4 (461, .putfield 328, 3) rfl) ?_
  have P := P _ rfl
  refine mx_aload_n (pc := 464) 0 (mx_dd dd_X12_init_5 5 (464, .aload_n 0, 1) rfl) rfl rfl ?_
  refine mx_sipush (pc := 465) (v := (13000 : Int32)) (mx_dd dd_X12_init_5 6 (465, .sipush 13000, 3) rfl) (by decide) ?_
  refine mx_newa (pc := 468) (N := 13000) (kd := 14) (by decide) rfl mx_ac_14 (by decide) (by decide) (by decide) (mx_dd dd_X12_init_5 7 (468, .newarray .int, 2) rfl) ?_
  have P := P _ _ rfl rfl
  obtain ⟨g52, P⟩ := P
  refine mx_putR (pc := 470) mx_fl_X12_334 g52 rfl (.inr ⟨rfl, rfl, rfl⟩) (mx_dd dd_X12_init_5 8 (470, .putfield 334, 3) rfl) ?_
  have P := P _ rfl
  refine mx_aload_n (pc := 473) 0 (mx_dd dd_X12_init_5 9 (473, .aload_n 0, 1) rfl) rfl rfl ?_
  refine mx_sipush (pc := 474) (v := (8000 : Int32)) (mx_dd dd_X12_init_5 10 (474, .sipush 8000, 3) rfl) (by decide) ?_
  refine mx_newa (pc := 477) (N := 8000) (kd := 14) (by decide) rfl mx_ac_14 (by decide) (by decide) (by decide) (mx_dd dd_X12_init_5 11 (477, .newarray .int, 2) rfl) ?_
  have P := P _ _ rfl rfl
  obtain ⟨g53, P⟩ := P
  refine mx_putR (pc := 479) mx_fl_X12_377 g53 rfl (.inr ⟨rfl, rfl, rfl⟩) (mx_dd dd_X12_init_5 12 (479, .putfield 377, 3) rfl) ?_
  have P := P _ rfl
  refine mx_aload_n (pc := 482) 0 (mx_dd dd_X12_init_5 13 (482, .aload_n 0, 1) rfl) rfl rfl ?_
  refine mx_sipush (pc := 483) (v := (4000 : Int32)) (mx_dd dd_X12_init_5 14 (483, .sipush 4000, 3) rfl) (by decide) ?_
  refine mx_newa (pc := 486) (N := 4000) (kd := 16) (by decide) rfl mx_ac_16 (by decide) (by decide) (by decide) (mx_dd dd_X12_init_5 15 (486, .newarray .boolean, 2) rfl) ?_
  have P := P _ _ rfl rfl
  obtain ⟨g54, P⟩ := P
  refine mx_putR (pc := 488) mx_fl_X12_368 g54 rfl (.inr ⟨rfl, rfl, rfl⟩) (mx_dd dd_X12_init_5 16 (488, .putfield 368, 3) rfl) ?_
  have P := P _ rfl
  refine mx_aload_n (pc := 491) 0 (mx_dd dd_X12_init_5 17 (491, .aload_n 0, 1) rfl) rfl rfl ?_
  refine mx_ldcw (pc := 492) mx_ci_X12_686 (mx_dd dd_X12_init_5 18 (492, .ldc_w 686, 3) rfl) ?_
  refine mx_newa (pc := 495) (N := 83000) (kd := 14) (by decide) rfl mx_ac_14 (by decide) (by decide) (by decide) (mx_dd dd_X12_init_5 19 (495, .newarray .int, 2) rfl) ?_
  have P := P _ _ rfl rfl
  obtain ⟨g55, P⟩ := P
  refine mx_putR (pc := 497) mx_fl_X12_319 g55 rfl (.inr ⟨rfl, rfl, rfl⟩) (mx_dd dd_X12_init_5 20 (497, .putfield 319, 3) rfl) ?_
  have P := P _ rfl
  refine mx_aload_n (pc := 500) 0 (mx_dd dd_X12_init_5 21 (500, .aload_n 0, 1) rfl) rfl rfl ?_
  refine mx_ldcw (pc := 501) mx_ci_X12_687 (mx_dd dd_X12_init_5 22 (501, .ldc_w 687, 3) rfl) ?_
  refine mx_newa (pc := 504) (N := 34000) (kd := 15) (by decide) rfl mx_ac_15 (by decide) (by decide) (by decide) (mx_dd dd_X12_init_5 23 (504, .newarray .long, 2) rfl) ?_
  have P := P _ _ rfl rfl
  obtain ⟨g56, P⟩ := P
  refine mx_putR (pc := 506) mx_fl_X12_407 g56 rfl (.inr ⟨rfl, rfl, rfl⟩) (mx_dd dd_X12_init_5 24 (506, .putfield 407, 3) rfl) ?_
  have P := P _ rfl
  refine mx_aload_n (pc := 509) 0 (mx_dd dd_X12_init_5 25 (509, .aload_n 0, 1) rfl) rfl rfl ?_
  refine mx_sipush (pc := 510) (v := (184 : Int32)) (mx_dd dd_X12_init_5 26 (510, .sipush 184, 3) rfl) (by decide) ?_
  refine mx_newa (pc := 513) (N := 184) (kd := 14) (by decide) rfl mx_ac_14 (by decide) (by decide) (by decide) (mx_dd dd_X12_init_5 27 (513, .newarray .int, 2) rfl) ?_
  have P := P _ _ rfl rfl
  obtain ⟨g57, P⟩ := P
  refine mx_putR (pc := 515) mx_fl_X12_413 g57 rfl (.inr ⟨rfl, rfl, rfl⟩) (mx_dd dd_X12_init_5 28 (515, .putfield 413, 3) rfl) ?_
  have P := P _ rfl
  refine mx_aload_n (pc := 518) 0 (mx_dd dd_X12_init_5 29 (518, .aload_n 0, 1) rfl) rfl rfl ?_
  refine mx_sipush (pc := 519) (v := (30000 : Int32)) (mx_dd dd_X12_init_5 30 (519, .sipush 30000, 3) rfl) (by decide) ?_
  refine mx_newa (pc := 522) (N := 30000) (kd := 13) (by decide) rfl mx_ac_13 (by decide) (by decide) (by decide) (mx_dd dd_X12_init_5 31 (522, .newarray .byte, 2) rfl) ?_
  have P := P _ _ rfl rfl
  obtain ⟨g58, P⟩ := P
  refine mx_putR (pc := 524) mx_fl_X12_550 g58 rfl (.inr ⟨rfl, rfl, rfl⟩) (mx_dd dd_X12_init_5 32 (524, .putfield 550, 3) rfl) ?_
  have P := P _ rfl
  refine mx_aload_n (pc := 527) 0 (mx_dd dd_X12_init_5 33 (527, .aload_n 0, 1) rfl) rfl rfl ?_
  refine mx_sipush (pc := 528) (v := (400 : Int32)) (mx_dd dd_X12_init_5 34 (528, .sipush 400, 3) rfl) (by decide) ?_
  refine mx_newa (pc := 531) (N := 400) (kd := 14) (by decide) rfl mx_ac_14 (by decide) (by decide) (by decide) (mx_dd dd_X12_init_5 35 (531, .newarray .int, 2) rfl) ?_
  have P := P _ _ rfl rfl
  obtain ⟨g59, P⟩ := P
  refine mx_putR (pc := 533) mx_fl_X12_559 g59 rfl (.inr ⟨rfl, rfl, rfl⟩) (mx_dd dd_X12_init_5 36 (533, .putfield 559, 3) rfl) ?_
  have P := P _ rfl
  refine mx_aload_n (pc := 536) 0 (mx_dd dd_X12_init_5 37 (536, .aload_n 0, 1) rfl) rfl rfl ?_
  refine mx_sipush (pc := 537) (v := (400 : Int32)) (mx_dd dd_X12_init_5 38 (537, .sipush 400, 3) rfl) (by decide) ?_
  refine mx_newa (pc := 540) (N := 400) (kd := 14) (by decide) rfl mx_ac_14 (by decide) (by decide) (by decide) (mx_dd dd_X12_init_5 39 (540, .newarray .int, 2) rfl) ?_
  have P := P _ _ rfl rfl
  obtain ⟨g60, P⟩ := P
  refine mx_putR (pc := 542) mx_fl_X12_565 g60 rfl (.inr ⟨rfl, rfl, rfl⟩) (mx_dd dd_X12_init_6 0 (542, .putfield 565, 3) rfl) ?_
  have P := P _ rfl
  refine mx_aload_n (pc := 545) 0 (mx_dd dd_X12_init_6 1 (545, .aload_n 0, 1) rfl) rfl rfl ?_
  refine mx_bipush (pc := 546) (v := (80 : Int32)) (mx_dd dd_X12_init_6 2 (546, .bipush 80, 2) rfl) (by decide) ?_
  refine mx_newa (pc := 548) (N := 80) (kd := 13) (by decide) rfl mx_ac_13 (by decide) (by decide) (by decide) (mx_dd dd_X12_init_6 3 (548, .newarray .byte, 2) rfl) ?_
  have P := P _ _ rfl rfl
  obtain ⟨g61, P⟩ := P
  refine mx_putR (pc := 550) mx_fl_X12_618 g61 rfl (.inr ⟨rfl, rfl, rfl⟩) (mx_dd dd_X12_init_6 4 (550, .putfield 618, 3) rfl) ?_
  have P := P _ rfl
  refine mx_aload_n (pc := 553) 0 (mx_dd dd_X12_init_6 5 (553, .aload_n 0, 1) rfl) rfl rfl ?_
  refine mx_sipush (pc := 554) (v := (4668 : Int32)) (mx_dd dd_X12_init_6 6 (554, .sipush 4668, 3) rfl) (by decide) ?_
  refine mx_newa (pc := 557) (N := 4668) (kd := 14) (by decide) rfl mx_ac_14 (by decide) (by decide) (by decide) (mx_dd dd_X12_init_6 7 (557, .newarray .int, 2) rfl) ?_
  have P := P _ _ rfl rfl
  obtain ⟨g62, P⟩ := P
  refine mx_putR (pc := 559) mx_fl_X12_340 g62 rfl (.inr ⟨rfl, rfl, rfl⟩) (mx_dd dd_X12_init_6 8 (559, .putfield 340, 3) rfl) ?_
  have P := P _ rfl
  refine mx_aload_n (pc := 562) 0 (mx_dd dd_X12_init_6 9 (562, .aload_n 0, 1) rfl) rfl rfl ?_
  refine mx_sipush (pc := 563) (v := (252 : Int32)) (mx_dd dd_X12_init_6 10 (563, .sipush 252, 3) rfl) (by decide) ?_
  refine mx_newa (pc := 566) (N := 252) (kd := 15) (by decide) rfl mx_ac_15 (by decide) (by decide) (by decide) (mx_dd dd_X12_init_6 11 (566, .newarray .long, 2) rfl) ?_
  have P := P _ _ rfl rfl
  obtain ⟨g63, P⟩ := P
  refine mx_putR (pc := 568) mx_fl_X12_688 g63 rfl (.inr ⟨rfl, rfl, rfl⟩) (mx_dd dd_X12_init_6 12 (568, .putfield 688, 3) rfl) ?_
  have P := P _ rfl
  refine mx_aload_n (pc := 571) 0 (mx_dd dd_X12_init_6 13 (571, .aload_n 0, 1) rfl) rfl rfl ?_
  refine mx_bipush (pc := 572) (v := (80 : Int32)) (mx_dd dd_X12_init_6 14 (572, .bipush 80, 2) rfl) (by decide) ?_
  refine mx_newa (pc := 574) (N := 80) (kd := 13) (by decide) rfl mx_ac_13 (by decide) (by decide) (by decide) (mx_dd dd_X12_init_6 15 (574, .newarray .byte, 2) rfl) ?_
  have P := P _ _ rfl rfl
  obtain ⟨g64, P⟩ := P
  refine mx_putR (pc := 576) mx_fl_X12_691 g64 rfl (.inr ⟨rfl, rfl, rfl⟩) (mx_dd dd_X12_init_6 16 (576, .putfield 691, 3) rfl) ?_
  have P := P _ rfl
  refine mx_iconst (pc := 579) (v := (0 : Int32)) (mx_dd dd_X12_init_6 17 (579, .iconst 0, 1) rfl) (by decide) ?_
  refine mx_istore_n (pc := 580) (mx_dd dd_X12_init_6 18 (580, .istore_n 1, 1) rfl) rfl (by decide) (lv' := [(1, _), (0, _)]) rfl ?_
  refine mx_sel [1, 0] rfl ?_
  exact P
theorem b_X12_init_581 {d : Nat} {h : mxH} {Q : mxRes → mxH → Prop} (x0 : Nat) (x1 : Int32)
    (P : (((13000 : Int32) ≤ x1 → mx_SX mY_X12_init d 618 [(0, .ref x0), (1, .int (0 : Int32))] [] h Q) ∧ (¬ (13000 : Int32) ≤ x1 → hpK h x0 = 12 ∧ ∃ b1 : Nat, hpR h x0 65 = some b1 ∧ (((13000 : Int32) ≤ (x1 + (1 : Int32)) → hpK h b1 = 14 ∧ vp_in x1 (hpZ h b1) ∧ ∀ h1 : mxH, h1 = hsI h b1 x1.toNatClampNeg (-1 : Int32) → mx_SX mY_X12_init d 581 [(0, .ref x0), (1, .int (x1 + (1 : Int32)))] [] h1 Q) ∧ (¬ (13000 : Int32) ≤ (x1 + (1 : Int32)) → hpK h b1 = 14 ∧ vp_in x1 (hpZ h b1) ∧ ∀ h2 : mxH, h2 = hsI h b1 x1.toNatClampNeg (x1 + (1 : Int32)) → mx_SX mY_X12_init d 581 [(0, .ref x0), (1, .int (x1 + (1 : Int32)))] [] h2 Q))))) : mx_SX mY_X12_init d 581 [(0, .ref x0), (1, .int x1)] [] h Q := by
  refine mx_iload_n (pc := 581) 1 (mx_dd dd_X12_init_6 19 (581, .iload_n 1, 1) rfl) rfl rfl ?_
  refine mx_sipush (pc := 582) (v := (13000 : Int32)) (mx_dd dd_X12_init_6 20 (582, .sipush 13000, 3) rfl) (by decide) ?_
  refine mx_icmp_ge (pc := 585) 616 (mx_dd dd_X12_init_6 21 (585, .if_icmp .ge 31, 3) rfl) rfl (fun c585 => ?_) (fun c585 => ?_)
  · have P := P.1 c585
    refine mx_iconst (pc := 616) (v := (0 : Int32)) (mx_dd dd_X12_init_6 38 (616, .iconst 0, 1) rfl) (by decide) ?_
    refine mx_istore_n (pc := 617) (mx_dd dd_X12_init_6 39 (617, .istore_n 1, 1) rfl) rfl (by decide) (lv' := [(1, _), (0, _)]) rfl ?_
    refine mx_sel [1, 0] rfl ?_
    exact P
  · have P := P.2 c585
    refine mx_aload_n (pc := 588) 0 (mx_dd dd_X12_init_6 22 (588, .aload_n 0, 1) rfl) rfl rfl ?_
    obtain ⟨g1, P⟩ := P
    obtain ⟨b1, g2, P⟩ := P
    refine mx_getR (pc := 589) mx_fl_X12_334 g1 rfl g2 (mx_dd dd_X12_init_6 23 (589, .getfield 334, 3) rfl) ?_
    refine mx_iload_n (pc := 592) 1 (mx_dd dd_X12_init_6 24 (592, .iload_n 1, 1) rfl) rfl rfl ?_
    refine mx_iload_n (pc := 593) 1 (mx_dd dd_X12_init_6 25 (593, .iload_n 1, 1) rfl) rfl rfl ?_
    refine mx_iconst (pc := 594) (v := (1 : Int32)) (mx_dd dd_X12_init_6 26 (594, .iconst 1, 1) rfl) (by decide) ?_
    refine mx_iadd (pc := 595) (mx_dd dd_X12_init_6 27 (595, .iadd, 1) rfl) ?_
    refine mx_sipush (pc := 596) (v := (13000 : Int32)) (mx_dd dd_X12_init_6 28 (596, .sipush 13000, 3) rfl) (by decide) ?_
    refine mx_icmp_ge (pc := 599) 608 (mx_dd dd_X12_init_6 29 (599, .if_icmp .ge 9, 3) rfl) rfl (fun c599 => ?_) (fun c599 => ?_)
    · have P := P.1 c599
      refine mx_iconst (pc := 608) (v := (-1 : Int32)) (mx_dd dd_X12_init_6 34 (608, .iconst (-1), 1) rfl) (by decide) ?_
      obtain ⟨g3, P⟩ := P
      obtain ⟨g4, P⟩ := P
      refine mx_iast (pc := 609) g3 g4 (mx_dd dd_X12_init_6 35 (609, .iastore, 1) rfl) ?_
      have P := P _ rfl
      refine mx_iinc (pc := 610) 1 (mx_dd dd_X12_init_6 36 (610, .iinc 1 1, 3) rfl) rfl (mx_kadd (by decide : Int32.ofInt 1 = (1 : Int32))) (by decide) (lv' := [(1, _), (0, _)]) rfl ?_
      refine mx_goto (pc := 613) 581 (mx_dd dd_X12_init_6 37 (613, .goto (-32), 3) rfl) rfl ?_
      refine mx_sel [1, 0] rfl ?_
      exact P
    · have P := P.2 c599
      refine mx_iload_n (pc := 602) 1 (mx_dd dd_X12_init_6 30 (602, .iload_n 1, 1) rfl) rfl rfl ?_
      refine mx_iconst (pc := 603) (v := (1 : Int32)) (mx_dd dd_X12_init_6 31 (603, .iconst 1, 1) rfl) (by decide) ?_
      refine mx_iadd (pc := 604) (mx_dd dd_X12_init_6 32 (604, .iadd, 1) rfl) ?_
      refine mx_goto (pc := 605) 609 (mx_dd dd_X12_init_6 33 (605, .goto 4, 3) rfl) rfl ?_
      obtain ⟨g5, P⟩ := P
      obtain ⟨g6, P⟩ := P
      refine mx_iast (pc := 609) g5 g6 (mx_dd dd_X12_init_6 35 (609, .iastore, 1) rfl) ?_
      have P := P _ rfl
      refine mx_iinc (pc := 610) 1 (mx_dd dd_X12_init_6 36 (610, .iinc 1 1, 3) rfl) rfl (mx_kadd (by decide : Int32.ofInt 1 = (1 : Int32))) (by decide) (lv' := [(1, _), (0, _)]) rfl ?_
      refine mx_goto (pc := 613) 581 (mx_dd dd_X12_init_6 37 (613, .goto (-32), 3) rfl) rfl ?_
      refine mx_sel [1, 0] rfl ?_
      exact P
theorem b_X12_init_618 {d : Nat} {h : mxH} {Q : mxRes → mxH → Prop} (x0 : Nat) (x1 : Int32)
    (P : (((400 : Int32) ≤ x1 → hpK h x0 = 12 ∧ ∃ b1 : Nat, hpR h x0 54 = some b1 ∧ hpK h b1 = 16 ∧ vp_in (0 : Int32) (hpZ h b1) ∧ ∀ h1 : mxH, h1 = hsI h b1 (0 : Int32).toNatClampNeg ((1 : Int32) &&& 1) → ∀ h2 : mxH, h2 = hsI h1 x0 50 (-1 : Int32) → 1 ≤ d ∧ mx_SM mY_X12_beginsAnew (d - 1) [.ref x0] h2 (mx_KV (fun h3 => Q (.inl none) h3) (mx_XX mY_X12_init Q))) ∧ (¬ (400 : Int32) ≤ x1 → hpK h x0 = 12 ∧ ∃ b2 : Nat, hpR h x0 61 = some b2 ∧ hpK h b2 = 14 ∧ vp_in x1 (hpZ h b2) ∧ ∀ h4 : mxH, h4 = hsI h b2 x1.toNatClampNeg (-1 : Int32) → mx_SX mY_X12_init d 618 [(0, .ref x0), (1, .int (x1 + (1 : Int32)))] [] h4 Q))) : mx_SX mY_X12_init d 618 [(0, .ref x0), (1, .int x1)] [] h Q := by
  refine mx_iload_n (pc := 618) 1 (mx_dd dd_X12_init_7 0 (618, .iload_n 1, 1) rfl) rfl rfl ?_
  refine mx_sipush (pc := 619) (v := (400 : Int32)) (mx_dd dd_X12_init_7 1 (619, .sipush 400, 3) rfl) (by decide) ?_
  refine mx_icmp_ge (pc := 622) 638 (mx_dd dd_X12_init_7 2 (622, .if_icmp .ge 16, 3) rfl) rfl (fun c622 => ?_) (fun c622 => ?_)
  · have P := P.1 c622
    refine mx_aload_n (pc := 638) 0 (mx_dd dd_X12_init_7 10 (638, .aload_n 0, 1) rfl) rfl rfl ?_
    obtain ⟨g1, P⟩ := P
    obtain ⟨b1, g2, P⟩ := P
    refine mx_getR (pc := 639) mx_fl_X12_308 g1 rfl g2 (mx_dd dd_X12_init_7 11 (639, .getfield 308, 3) rfl) ?_
    refine mx_iconst (pc := 642) (v := (0 : Int32)) (mx_dd dd_X12_init_7 12 (642, .iconst 0, 1) rfl) (by decide) ?_
    refine mx_iconst (pc := 643) (v := (1 : Int32)) (mx_dd dd_X12_init_7 13 (643, .iconst 1, 1) rfl) (by decide) ?_
    obtain ⟨g3, P⟩ := P
    obtain ⟨g4, P⟩ := P
    refine mx_zast (pc := 644) g3 g4 (mx_dd dd_X12_init_7 14 (644, .bastore, 1) rfl) ?_
    have P := P _ rfl
    refine mx_aload_n (pc := 645) 0 (mx_dd dd_X12_init_7 15 (645, .aload_n 0, 1) rfl) rfl rfl ?_
    refine mx_iconst (pc := 646) (v := (-1 : Int32)) (mx_dd dd_X12_init_7 16 (646, .iconst (-1), 1) rfl) (by decide) ?_
    refine mx_putI (pc := 647) mx_fl_X12_302 g1 rfl (.inl rfl) rfl rfl (mx_dd dd_X12_init_7 17 (647, .putfield 302, 3) rfl) ?_
    have P := P _ rfl
    refine mx_aload_n (pc := 650) 0 (mx_dd dd_X12_init_7 18 (650, .aload_n 0, 1) rfl) rfl rfl ?_
    obtain ⟨g5, P⟩ := P
    refine mx_cVV (pc := 651) (Y := mY_X12_beginsAnew) (As := []) mx_ml_X12_305 mx_y_X12_beginsAnew rfl g1 (by decide) rfl (by decide) rfl (mx_dd dd_X12_init_7 19 (651, .invokevirtual 305, 3) rfl) g5 (by decide) P (fun h3 P => ?_)
    exact mx_return (pc := 654) (mx_dd dd_X12_init_7 20 (654, .return_, 1) rfl) rfl P
  · have P := P.2 c622
    refine mx_aload_n (pc := 625) 0 (mx_dd dd_X12_init_7 3 (625, .aload_n 0, 1) rfl) rfl rfl ?_
    obtain ⟨g6, P⟩ := P
    obtain ⟨b2, g7, P⟩ := P
    refine mx_getR (pc := 626) mx_fl_X12_325 g6 rfl g7 (mx_dd dd_X12_init_7 4 (626, .getfield 325, 3) rfl) ?_
    refine mx_iload_n (pc := 629) 1 (mx_dd dd_X12_init_7 5 (629, .iload_n 1, 1) rfl) rfl rfl ?_
    refine mx_iconst (pc := 630) (v := (-1 : Int32)) (mx_dd dd_X12_init_7 6 (630, .iconst (-1), 1) rfl) (by decide) ?_
    obtain ⟨g8, P⟩ := P
    obtain ⟨g9, P⟩ := P
    refine mx_iast (pc := 631) g8 g9 (mx_dd dd_X12_init_7 7 (631, .iastore, 1) rfl) ?_
    have P := P _ rfl
    refine mx_iinc (pc := 632) 1 (mx_dd dd_X12_init_7 8 (632, .iinc 1 1, 3) rfl) rfl (mx_kadd (by decide : Int32.ofInt 1 = (1 : Int32))) (by decide) (lv' := [(1, _), (0, _)]) rfl ?_
    refine mx_goto (pc := 635) 618 (mx_dd dd_X12_init_7 9 (635, .goto (-17), 3) rfl) rfl ?_
    refine mx_sel [1, 0] rfl ?_
    exact P
theorem b_X12_keeps {d : Nat} {h : mxH} {Q : mxRes → mxH → Prop} (x0 : Nat)
    (P : hpK h x0 = 12 ∧ ((¬ (hpI h x0 82) = (6 : Int32) → mx_SX mY_X12_keeps d 83 [(0, .ref x0)] [] h Q) ∧ ((hpI h x0 82) = (6 : Int32) → mx_SX mY_X12_keeps d 13 [(0, .ref x0), (1, .int (778 : Int32))] [] h Q))) : mx_SM mY_X12_keeps d [.ref x0] h Q := by
  refine mx_SM_of (by decide) (Nat.le_of_ble_eq_true rfl) ?_
  show mx_SX mY_X12_keeps d 0 [(0, .ref x0)] [] h Q
  refine mx_aload_n (pc := 0) 0 (mx_dd dd_X12_keeps_0 0 (0, .aload_n 0, 1) rfl) rfl rfl ?_
  obtain ⟨g1, P⟩ := P
  refine mx_getI (pc := 1) mx_fl_X12_337 g1 rfl (mx_dd dd_X12_keeps_0 1 (1, .getfield 337, 3) rfl) ?_
  refine mx_bipush (pc := 4) (v := (6 : Int32)) (mx_dd dd_X12_keeps_0 2 (4, .bipush 6, 2) rfl) (by decide) ?_
  refine mx_icmp_ne (pc := 6) 83 (mx_dd dd_X12_keeps_0 3 (6, .if_icmp .ne 77, 3) rfl) rfl (fun c6 => ?_) (fun c6 => ?_)
  · have P := P.1 c6
    exact P
  · have P := P.2 c6
    refine mx_sipush (pc := 9) (v := (778 : Int32)) (mx_dd dd_X12_keeps_0 4 (9, .sipush 778, 3) rfl) (by decide) ?_
    refine mx_istore_n (pc := 12) (mx_dd dd_X12_keeps_0 5 (12, .istore_n 1, 1) rfl) rfl (by decide) (lv' := [(1, _), (0, _)]) rfl ?_
    refine mx_sel [1, 0] rfl ?_
    exact P
theorem b_X12_keeps_13 {d : Nat} {h : mxH} {Q : mxRes → mxH → Prop} (x0 : Nat) (x1 : Int32)
    (P : (((4668 : Int32) ≤ x1 → mx_SX mY_X12_keeps d 45 [(0, .ref x0), (1, .int (42 : Int32))] [] h Q) ∧ (¬ (4668 : Int32) ≤ x1 → hpK h x0 = 12 ∧ ∃ b1 : Nat, hpR h x0 80 = some b1 ∧ hpK h b1 = 14 ∧ vp_in x1 (hpZ h b1) ∧ vp_in (x1 - (778 : Int32)) (hpZ h b1) ∧ ∀ h1 : mxH, h1 = hsI h b1 (x1 - (778 : Int32)).toNatClampNeg (hpI h b1 x1.toNatClampNeg) → mx_SX mY_X12_keeps d 13 [(0, .ref x0), (1, .int (x1 + (1 : Int32)))] [] h1 Q))) : mx_SX mY_X12_keeps d 13 [(0, .ref x0), (1, .int x1)] [] h Q := by
  refine mx_iload_n (pc := 13) 1 (mx_dd dd_X12_keeps_0 6 (13, .iload_n 1, 1) rfl) rfl rfl ?_
  refine mx_sipush (pc := 14) (v := (4668 : Int32)) (mx_dd dd_X12_keeps_0 7 (14, .sipush 4668, 3) rfl) (by decide) ?_
  refine mx_icmp_ge (pc := 17) 42 (mx_dd dd_X12_keeps_0 8 (17, .if_icmp .ge 25, 3) rfl) rfl (fun c17 => ?_) (fun c17 => ?_)
  · have P := P.1 c17
    refine mx_bipush (pc := 42) (v := (42 : Int32)) (mx_dd dd_X12_keeps_0 21 (42, .bipush 42, 2) rfl) (by decide) ?_
    refine mx_istore_n (pc := 44) (mx_dd dd_X12_keeps_0 22 (44, .istore_n 1, 1) rfl) rfl (by decide) (lv' := [(1, _), (0, _)]) rfl ?_
    refine mx_sel [1, 0] rfl ?_
    exact P
  · have P := P.2 c17
    refine mx_aload_n (pc := 20) 0 (mx_dd dd_X12_keeps_0 9 (20, .aload_n 0, 1) rfl) rfl rfl ?_
    obtain ⟨g1, P⟩ := P
    obtain ⟨b1, g2, P⟩ := P
    refine mx_getR (pc := 21) mx_fl_X12_340 g1 rfl g2 (mx_dd dd_X12_keeps_0 10 (21, .getfield 340, 3) rfl) ?_
    refine mx_iload_n (pc := 24) 1 (mx_dd dd_X12_keeps_0 11 (24, .iload_n 1, 1) rfl) rfl rfl ?_
    refine mx_sipush (pc := 25) (v := (778 : Int32)) (mx_dd dd_X12_keeps_0 12 (25, .sipush 778, 3) rfl) (by decide) ?_
    refine mx_isub (pc := 28) (mx_dd dd_X12_keeps_0 13 (28, .isub, 1) rfl) ?_
    refine mx_aload_n (pc := 29) 0 (mx_dd dd_X12_keeps_0 14 (29, .aload_n 0, 1) rfl) rfl rfl ?_
    refine mx_getR (pc := 30) mx_fl_X12_340 g1 rfl g2 (mx_dd dd_X12_keeps_0 15 (30, .getfield 340, 3) rfl) ?_
    refine mx_iload_n (pc := 33) 1 (mx_dd dd_X12_keeps_0 16 (33, .iload_n 1, 1) rfl) rfl rfl ?_
    obtain ⟨g3, P⟩ := P
    obtain ⟨g4, P⟩ := P
    refine mx_iald (pc := 34) g3 g4 (mx_dd dd_X12_keeps_0 17 (34, .iaload, 1) rfl) ?_
    obtain ⟨g5, P⟩ := P
    refine mx_iast (pc := 35) g3 g5 (mx_dd dd_X12_keeps_0 18 (35, .iastore, 1) rfl) ?_
    have P := P _ rfl
    refine mx_iinc (pc := 36) 1 (mx_dd dd_X12_keeps_0 19 (36, .iinc 1 1, 3) rfl) rfl (mx_kadd (by decide : Int32.ofInt 1 = (1 : Int32))) (by decide) (lv' := [(1, _), (0, _)]) rfl ?_
    refine mx_goto (pc := 39) 13 (mx_dd dd_X12_keeps_0 20 (39, .goto (-26), 3) rfl) rfl ?_
    refine mx_sel [1, 0] rfl ?_
    exact P
theorem b_X12_keeps_45 {d : Nat} {h : mxH} {Q : mxRes → mxH → Prop} (x0 : Nat) (x1 : Int32)
    (P : (((252 : Int32) ≤ x1 → hpK h x0 = 12 ∧ ∀ h1 : mxH, h1 = hsI h x0 82 ((hpI h x0 82) - (1 : Int32)) → mx_SX mY_X12_keeps d 83 [(0, .ref x0)] [] h1 Q) ∧ (¬ (252 : Int32) ≤ x1 → hpK h x0 = 12 ∧ ∃ b1 : Nat, hpR h x0 81 = some b1 ∧ hpK h b1 = 15 ∧ vp_in x1 (hpZ h b1) ∧ vp_in (x1 - (42 : Int32)) (hpZ h b1) ∧ ∀ h2 : mxH, h2 = hsL h b1 (x1 - (42 : Int32)).toNatClampNeg (hpL h b1 x1.toNatClampNeg) → mx_SX mY_X12_keeps d 45 [(0, .ref x0), (1, .int (x1 + (1 : Int32)))] [] h2 Q))) : mx_SX mY_X12_keeps d 45 [(0, .ref x0), (1, .int x1)] [] h Q := by
  refine mx_iload_n (pc := 45) 1 (mx_dd dd_X12_keeps_0 23 (45, .iload_n 1, 1) rfl) rfl rfl ?_
  refine mx_sipush (pc := 46) (v := (252 : Int32)) (mx_dd dd_X12_keeps_0 24 (46, .sipush 252, 3) rfl) (by decide) ?_
  refine mx_icmp_ge (pc := 49) 73 (mx_dd dd_X12_keeps_0 25 (49, .if_icmp .ge 24, 3) rfl) rfl (fun c49 => ?_) (fun c49 => ?_)
  · have P := P.1 c49
    refine mx_aload_n (pc := 73) 0 (mx_dd dd_X12_keeps_0 38 (73, .aload_n 0, 1) rfl) rfl rfl ?_
    refine mx_dup (pc := 74) (mx_dd dd_X12_keeps_0 39 (74, .dup, 1) rfl) rfl ?_
    obtain ⟨g1, P⟩ := P
    refine mx_getI (pc := 75) mx_fl_X12_337 g1 rfl (mx_dd dd_X12_keeps_1 0 (75, .getfield 337, 3) rfl) ?_
    refine mx_iconst (pc := 78) (v := (1 : Int32)) (mx_dd dd_X12_keeps_1 1 (78, .iconst 1, 1) rfl) (by decide) ?_
    refine mx_isub (pc := 79) (mx_dd dd_X12_keeps_1 2 (79, .isub, 1) rfl) ?_
    refine mx_putI (pc := 80) mx_fl_X12_337 g1 rfl (.inl rfl) rfl rfl (mx_dd dd_X12_keeps_1 3 (80, .putfield 337, 3) rfl) ?_
    have P := P _ rfl
    refine mx_sel [0] rfl ?_
    exact P
  · have P := P.2 c49
    refine mx_aload_n (pc := 52) 0 (mx_dd dd_X12_keeps_0 26 (52, .aload_n 0, 1) rfl) rfl rfl ?_
    obtain ⟨g2, P⟩ := P
    obtain ⟨b1, g3, P⟩ := P
    refine mx_getR (pc := 53) mx_fl_X12_688 g2 rfl g3 (mx_dd dd_X12_keeps_0 27 (53, .getfield 688, 3) rfl) ?_
    refine mx_iload_n (pc := 56) 1 (mx_dd dd_X12_keeps_0 28 (56, .iload_n 1, 1) rfl) rfl rfl ?_
    refine mx_bipush (pc := 57) (v := (42 : Int32)) (mx_dd dd_X12_keeps_0 29 (57, .bipush 42, 2) rfl) (by decide) ?_
    refine mx_isub (pc := 59) (mx_dd dd_X12_keeps_0 30 (59, .isub, 1) rfl) ?_
    refine mx_aload_n (pc := 60) 0 (mx_dd dd_X12_keeps_0 31 (60, .aload_n 0, 1) rfl) rfl rfl ?_
    refine mx_getR (pc := 61) mx_fl_X12_688 g2 rfl g3 (mx_dd dd_X12_keeps_0 32 (61, .getfield 688, 3) rfl) ?_
    refine mx_iload_n (pc := 64) 1 (mx_dd dd_X12_keeps_0 33 (64, .iload_n 1, 1) rfl) rfl rfl ?_
    obtain ⟨g4, P⟩ := P
    obtain ⟨g5, P⟩ := P
    refine mx_lald (pc := 65) g4 g5 (mx_dd dd_X12_keeps_0 34 (65, .laload, 1) rfl) ?_
    obtain ⟨g6, P⟩ := P
    refine mx_last (pc := 66) g4 g6 (mx_dd dd_X12_keeps_0 35 (66, .lastore, 1) rfl) ?_
    have P := P _ rfl
    refine mx_iinc (pc := 67) 1 (mx_dd dd_X12_keeps_0 36 (67, .iinc 1 1, 3) rfl) rfl (mx_kadd (by decide : Int32.ofInt 1 = (1 : Int32))) (by decide) (lv' := [(1, _), (0, _)]) rfl ?_
    refine mx_goto (pc := 70) 45 (mx_dd dd_X12_keeps_0 37 (70, .goto (-25), 3) rfl) rfl ?_
    refine mx_sel [1, 0] rfl ?_
    exact P
theorem b_X12_keeps_83 {d : Nat} {h : mxH} {Q : mxRes → mxH → Prop} (x0 : Nat)
    (P : hpK h x0 = 12 ∧ mx_SX mY_X12_keeps d 94 [(0, .ref x0), (1, .int ((778 : Int32) * (hpI h x0 82))), (2, .int (0 : Int32))] [] h Q) : mx_SX mY_X12_keeps d 83 [(0, .ref x0)] [] h Q := by
  refine mx_sipush (pc := 83) (v := (778 : Int32)) (mx_dd dd_X12_keeps_1 4 (83, .sipush 778, 3) rfl) (by decide) ?_
  refine mx_aload_n (pc := 86) 0 (mx_dd dd_X12_keeps_1 5 (86, .aload_n 0, 1) rfl) rfl rfl ?_
  obtain ⟨g1, P⟩ := P
  refine mx_getI (pc := 87) mx_fl_X12_337 g1 rfl (mx_dd dd_X12_keeps_1 6 (87, .getfield 337, 3) rfl) ?_
  refine mx_imul (pc := 90) (mx_dd dd_X12_keeps_1 7 (90, .imul, 1) rfl) ?_
  refine mx_istore_n (pc := 91) (mx_dd dd_X12_keeps_1 8 (91, .istore_n 1, 1) rfl) rfl (by decide) (lv' := [(1, _), (0, _)]) rfl ?_
  refine mx_iconst (pc := 92) (v := (0 : Int32)) (mx_dd dd_X12_keeps_1 9 (92, .iconst 0, 1) rfl) (by decide) ?_
  refine mx_istore_n (pc := 93) (mx_dd dd_X12_keeps_1 10 (93, .istore_n 2, 1) rfl) rfl (by decide) (lv' := [(2, _), (1, _), (0, _)]) rfl ?_
  refine mx_sel [2, 1, 0] rfl ?_
  exact P
theorem b_X12_keeps_94 {d : Nat} {h : mxH} {Q : mxRes → mxH → Prop} (x0 : Nat) (x1 : Int32) (x2 : Int32)
    (P : (((471 : Int32) ≤ x2 → mx_SX mY_X12_keeps d 123 [(0, .ref x0), (1, .int x1), (2, .int (0 : Int32))] [] h Q) ∧ (¬ (471 : Int32) ≤ x2 → hpK h x0 = 12 ∧ ∃ b1 : Nat, hpR h x0 80 = some b1 ∧ ∃ b2 : Nat, hpR h x0 56 = some b2 ∧ hpK h b2 = 14 ∧ vp_in x2 (hpZ h b2) ∧ hpK h b1 = 14 ∧ vp_in (x1 + x2) (hpZ h b1) ∧ ∀ h1 : mxH, h1 = hsI h b1 (x1 + x2).toNatClampNeg (hpI h b2 x2.toNatClampNeg) → mx_SX mY_X12_keeps d 94 [(0, .ref x0), (1, .int x1), (2, .int (x2 + (1 : Int32)))] [] h1 Q))) : mx_SX mY_X12_keeps d 94 [(0, .ref x0), (1, .int x1), (2, .int x2)] [] h Q := by
  refine mx_iload_n (pc := 94) 2 (mx_dd dd_X12_keeps_1 11 (94, .iload_n 2, 1) rfl) rfl rfl ?_
  refine mx_sipush (pc := 95) (v := (471 : Int32)) (mx_dd dd_X12_keeps_1 12 (95, .sipush 471, 3) rfl) (by decide) ?_
  refine mx_icmp_ge (pc := 98) 121 (mx_dd dd_X12_keeps_1 13 (98, .if_icmp .ge 23, 3) rfl) rfl (fun c98 => ?_) (fun c98 => ?_)
  · have P := P.1 c98
    refine mx_iconst (pc := 121) (v := (0 : Int32)) (mx_dd dd_X12_keeps_1 26 (121, .iconst 0, 1) rfl) (by decide) ?_
    refine mx_istore_n (pc := 122) (mx_dd dd_X12_keeps_1 27 (122, .istore_n 2, 1) rfl) rfl (by decide) (lv' := [(2, _), (0, _), (1, _)]) rfl ?_
    refine mx_sel [1, 2, 0] rfl ?_
    exact P
  · have P := P.2 c98
    refine mx_aload_n (pc := 101) 0 (mx_dd dd_X12_keeps_1 14 (101, .aload_n 0, 1) rfl) rfl rfl ?_
    obtain ⟨g1, P⟩ := P
    obtain ⟨b1, g2, P⟩ := P
    refine mx_getR (pc := 102) mx_fl_X12_340 g1 rfl g2 (mx_dd dd_X12_keeps_1 15 (102, .getfield 340, 3) rfl) ?_
    refine mx_iload_n (pc := 105) 1 (mx_dd dd_X12_keeps_1 16 (105, .iload_n 1, 1) rfl) rfl rfl ?_
    refine mx_iload_n (pc := 106) 2 (mx_dd dd_X12_keeps_1 17 (106, .iload_n 2, 1) rfl) rfl rfl ?_
    refine mx_iadd (pc := 107) (mx_dd dd_X12_keeps_1 18 (107, .iadd, 1) rfl) ?_
    refine mx_aload_n (pc := 108) 0 (mx_dd dd_X12_keeps_1 19 (108, .aload_n 0, 1) rfl) rfl rfl ?_
    obtain ⟨b2, g3, P⟩ := P
    refine mx_getR (pc := 109) mx_fl_X12_312 g1 rfl g3 (mx_dd dd_X12_keeps_1 20 (109, .getfield 312, 3) rfl) ?_
    refine mx_iload_n (pc := 112) 2 (mx_dd dd_X12_keeps_1 21 (112, .iload_n 2, 1) rfl) rfl rfl ?_
    obtain ⟨g4, P⟩ := P
    obtain ⟨g5, P⟩ := P
    refine mx_iald (pc := 113) g4 g5 (mx_dd dd_X12_keeps_1 22 (113, .iaload, 1) rfl) ?_
    obtain ⟨g6, P⟩ := P
    obtain ⟨g7, P⟩ := P
    refine mx_iast (pc := 114) g6 g7 (mx_dd dd_X12_keeps_1 23 (114, .iastore, 1) rfl) ?_
    have P := P _ rfl
    refine mx_iinc (pc := 115) 2 (mx_dd dd_X12_keeps_1 24 (115, .iinc 2 1, 3) rfl) rfl (mx_kadd (by decide : Int32.ofInt 1 = (1 : Int32))) (by decide) (lv' := [(2, _), (0, _), (1, _)]) rfl ?_
    refine mx_goto (pc := 118) 94 (mx_dd dd_X12_keeps_1 25 (118, .goto (-24), 3) rfl) rfl ?_
    refine mx_sel [1, 2, 0] rfl ?_
    exact P
theorem b_X12_keeps_123 {d : Nat} {h : mxH} {Q : mxRes → mxH → Prop} (x0 : Nat) (x1 : Int32) (x2 : Int32)
    (P : (((83 : Int32) ≤ x2 → mx_SX mY_X12_keeps d 155 [(0, .ref x0), (1, .int x1), (2, .int (0 : Int32))] [] h Q) ∧ (¬ (83 : Int32) ≤ x2 → hpK h x0 = 12 ∧ ∃ b1 : Nat, hpR h x0 80 = some b1 ∧ ∃ b2 : Nat, hpR h x0 71 = some b2 ∧ hpK h b2 = 14 ∧ vp_in x2 (hpZ h b2) ∧ hpK h b1 = 14 ∧ vp_in ((x1 + (471 : Int32)) + x2) (hpZ h b1) ∧ ∀ h1 : mxH, h1 = hsI h b1 ((x1 + (471 : Int32)) + x2).toNatClampNeg (hpI h b2 x2.toNatClampNeg) → mx_SX mY_X12_keeps d 123 [(0, .ref x0), (1, .int x1), (2, .int (x2 + (1 : Int32)))] [] h1 Q))) : mx_SX mY_X12_keeps d 123 [(0, .ref x0), (1, .int x1), (2, .int x2)] [] h Q := by
  refine mx_iload_n (pc := 123) 2 (mx_dd dd_X12_keeps_1 28 (123, .iload_n 2, 1) rfl) rfl rfl ?_
  refine mx_bipush (pc := 124) (v := (83 : Int32)) (mx_dd dd_X12_keeps_1 29 (124, .bipush 83, 2) rfl) (by decide) ?_
  refine mx_icmp_ge (pc := 126) 153 (mx_dd dd_X12_keeps_1 30 (126, .if_icmp .ge 27, 3) rfl) rfl (fun c126 => ?_) (fun c126 => ?_)
  · have P := P.1 c126
    refine mx_iconst (pc := 153) (v := (0 : Int32)) (mx_dd dd_X12_keeps_2 5 (153, .iconst 0, 1) rfl) (by decide) ?_
    refine mx_istore_n (pc := 154) (mx_dd dd_X12_keeps_2 6 (154, .istore_n 2, 1) rfl) rfl (by decide) (lv' := [(2, _), (0, _), (1, _)]) rfl ?_
    refine mx_sel [1, 2, 0] rfl ?_
    exact P
  · have P := P.2 c126
    refine mx_aload_n (pc := 129) 0 (mx_dd dd_X12_keeps_1 31 (129, .aload_n 0, 1) rfl) rfl rfl ?_
    obtain ⟨g1, P⟩ := P
    obtain ⟨b1, g2, P⟩ := P
    refine mx_getR (pc := 130) mx_fl_X12_340 g1 rfl g2 (mx_dd dd_X12_keeps_1 32 (130, .getfield 340, 3) rfl) ?_
    refine mx_iload_n (pc := 133) 1 (mx_dd dd_X12_keeps_1 33 (133, .iload_n 1, 1) rfl) rfl rfl ?_
    refine mx_sipush (pc := 134) (v := (471 : Int32)) (mx_dd dd_X12_keeps_1 34 (134, .sipush 471, 3) rfl) (by decide) ?_
    refine mx_iadd (pc := 137) (mx_dd dd_X12_keeps_1 35 (137, .iadd, 1) rfl) ?_
    refine mx_iload_n (pc := 138) 2 (mx_dd dd_X12_keeps_1 36 (138, .iload_n 2, 1) rfl) rfl rfl ?_
    refine mx_iadd (pc := 139) (mx_dd dd_X12_keeps_1 37 (139, .iadd, 1) rfl) ?_
    refine mx_aload_n (pc := 140) 0 (mx_dd dd_X12_keeps_1 38 (140, .aload_n 0, 1) rfl) rfl rfl ?_
    obtain ⟨b2, g3, P⟩ := P
    refine mx_getR (pc := 141) mx_fl_X12_319 g1 rfl g3 (mx_dd dd_X12_keeps_1 39 (141, .getfield 319, 3) rfl) ?_
    refine mx_iload_n (pc := 144) 2 (mx_dd dd_X12_keeps_2 0 (144, .iload_n 2, 1) rfl) rfl rfl ?_
    obtain ⟨g4, P⟩ := P
    obtain ⟨g5, P⟩ := P
    refine mx_iald (pc := 145) g4 g5 (mx_dd dd_X12_keeps_2 1 (145, .iaload, 1) rfl) ?_
    obtain ⟨g6, P⟩ := P
    obtain ⟨g7, P⟩ := P
    refine mx_iast (pc := 146) g6 g7 (mx_dd dd_X12_keeps_2 2 (146, .iastore, 1) rfl) ?_
    have P := P _ rfl
    refine mx_iinc (pc := 147) 2 (mx_dd dd_X12_keeps_2 3 (147, .iinc 2 1, 3) rfl) rfl (mx_kadd (by decide : Int32.ofInt 1 = (1 : Int32))) (by decide) (lv' := [(2, _), (0, _), (1, _)]) rfl ?_
    refine mx_goto (pc := 150) 123 (mx_dd dd_X12_keeps_2 4 (150, .goto (-27), 3) rfl) rfl ?_
    refine mx_sel [1, 2, 0] rfl ?_
    exact P
theorem b_X12_keeps_155 {d : Nat} {h : mxH} {Q : mxRes → mxH → Prop} (x0 : Nat) (x1 : Int32) (x2 : Int32)
    (P : (((184 : Int32) ≤ x2 → mx_SX mY_X12_keeps d 191 [(0, .ref x0), (1, .int x1), (2, .int (0 : Int32))] [] h Q) ∧ (¬ (184 : Int32) ≤ x2 → hpK h x0 = 12 ∧ ∃ b1 : Nat, hpR h x0 80 = some b1 ∧ ∃ b2 : Nat, hpR h x0 73 = some b2 ∧ hpK h b2 = 14 ∧ vp_in x2 (hpZ h b2) ∧ hpK h b1 = 14 ∧ vp_in (((x1 + (471 : Int32)) + (83 : Int32)) + x2) (hpZ h b1) ∧ ∀ h1 : mxH, h1 = hsI h b1 (((x1 + (471 : Int32)) + (83 : Int32)) + x2).toNatClampNeg (hpI h b2 x2.toNatClampNeg) → mx_SX mY_X12_keeps d 155 [(0, .ref x0), (1, .int x1), (2, .int (x2 + (1 : Int32)))] [] h1 Q))) : mx_SX mY_X12_keeps d 155 [(0, .ref x0), (1, .int x1), (2, .int x2)] [] h Q := by
  refine mx_iload_n (pc := 155) 2 (mx_dd dd_X12_keeps_2 7 (155, .iload_n 2, 1) rfl) rfl rfl ?_
  refine mx_sipush (pc := 156) (v := (184 : Int32)) (mx_dd dd_X12_keeps_2 8 (156, .sipush 184, 3) rfl) (by decide) ?_
  refine mx_icmp_ge (pc := 159) 189 (mx_dd dd_X12_keeps_2 9 (159, .if_icmp .ge 30, 3) rfl) rfl (fun c159 => ?_) (fun c159 => ?_)
  · have P := P.1 c159
    refine mx_iconst (pc := 189) (v := (0 : Int32)) (mx_dd dd_X12_keeps_2 26 (189, .iconst 0, 1) rfl) (by decide) ?_
    refine mx_istore_n (pc := 190) (mx_dd dd_X12_keeps_2 27 (190, .istore_n 2, 1) rfl) rfl (by decide) (lv' := [(2, _), (0, _), (1, _)]) rfl ?_
    refine mx_sel [1, 2, 0] rfl ?_
    exact P
  · have P := P.2 c159
    refine mx_aload_n (pc := 162) 0 (mx_dd dd_X12_keeps_2 10 (162, .aload_n 0, 1) rfl) rfl rfl ?_
    obtain ⟨g1, P⟩ := P
    obtain ⟨b1, g2, P⟩ := P
    refine mx_getR (pc := 163) mx_fl_X12_340 g1 rfl g2 (mx_dd dd_X12_keeps_2 11 (163, .getfield 340, 3) rfl) ?_
    refine mx_iload_n (pc := 166) 1 (mx_dd dd_X12_keeps_2 12 (166, .iload_n 1, 1) rfl) rfl rfl ?_
    refine mx_sipush (pc := 167) (v := (471 : Int32)) (mx_dd dd_X12_keeps_2 13 (167, .sipush 471, 3) rfl) (by decide) ?_
    refine mx_iadd (pc := 170) (mx_dd dd_X12_keeps_2 14 (170, .iadd, 1) rfl) ?_
    refine mx_bipush (pc := 171) (v := (83 : Int32)) (mx_dd dd_X12_keeps_2 15 (171, .bipush 83, 2) rfl) (by decide) ?_
    refine mx_iadd (pc := 173) (mx_dd dd_X12_keeps_2 16 (173, .iadd, 1) rfl) ?_
    refine mx_iload_n (pc := 174) 2 (mx_dd dd_X12_keeps_2 17 (174, .iload_n 2, 1) rfl) rfl rfl ?_
    refine mx_iadd (pc := 175) (mx_dd dd_X12_keeps_2 18 (175, .iadd, 1) rfl) ?_
    refine mx_aload_n (pc := 176) 0 (mx_dd dd_X12_keeps_2 19 (176, .aload_n 0, 1) rfl) rfl rfl ?_
    obtain ⟨b2, g3, P⟩ := P
    refine mx_getR (pc := 177) mx_fl_X12_413 g1 rfl g3 (mx_dd dd_X12_keeps_2 20 (177, .getfield 413, 3) rfl) ?_
    refine mx_iload_n (pc := 180) 2 (mx_dd dd_X12_keeps_2 21 (180, .iload_n 2, 1) rfl) rfl rfl ?_
    obtain ⟨g4, P⟩ := P
    obtain ⟨g5, P⟩ := P
    refine mx_iald (pc := 181) g4 g5 (mx_dd dd_X12_keeps_2 22 (181, .iaload, 1) rfl) ?_
    obtain ⟨g6, P⟩ := P
    obtain ⟨g7, P⟩ := P
    refine mx_iast (pc := 182) g6 g7 (mx_dd dd_X12_keeps_2 23 (182, .iastore, 1) rfl) ?_
    have P := P _ rfl
    refine mx_iinc (pc := 183) 2 (mx_dd dd_X12_keeps_2 24 (183, .iinc 2 1, 3) rfl) rfl (mx_kadd (by decide : Int32.ofInt 1 = (1 : Int32))) (by decide) (lv' := [(2, _), (0, _), (1, _)]) rfl ?_
    refine mx_goto (pc := 186) 155 (mx_dd dd_X12_keeps_2 25 (186, .goto (-31), 3) rfl) rfl ?_
    refine mx_sel [1, 2, 0] rfl ?_
    exact P
theorem b_X12_keeps_191 {d : Nat} {h : mxH} {Q : mxRes → mxH → Prop} (x0 : Nat) (x1 : Int32) (x2 : Int32)
    (P : (((10 : Int32) ≤ x2 → mx_SX mY_X12_keeps d 219 [(0, .ref x0), (2, .int (0 : Int32))] [] h Q) ∧ (¬ (10 : Int32) ≤ x2 → 1 ≤ d ∧ hpK h x0 = 12 ∧ mx_SM mY_X12_keepsHandle (d - 1) [.ref x0, .int ((x1 + (738 : Int32)) + ((4 : Int32) * x2)), .int x2] h (mx_KV (fun h1 => mx_SX mY_X12_keeps d 191 [(0, .ref x0), (1, .int x1), (2, .int (x2 + (1 : Int32)))] [] h1 Q) (mx_XX mY_X12_keeps Q))))) : mx_SX mY_X12_keeps d 191 [(0, .ref x0), (1, .int x1), (2, .int x2)] [] h Q := by
  refine mx_iload_n (pc := 191) 2 (mx_dd dd_X12_keeps_2 28 (191, .iload_n 2, 1) rfl) rfl rfl ?_
  refine mx_bipush (pc := 192) (v := (10 : Int32)) (mx_dd dd_X12_keeps_2 29 (192, .bipush 10, 2) rfl) (by decide) ?_
  refine mx_icmp_ge (pc := 194) 217 (mx_dd dd_X12_keeps_2 30 (194, .if_icmp .ge 23, 3) rfl) rfl (fun c194 => ?_) (fun c194 => ?_)
  · have P := P.1 c194
    refine mx_iconst (pc := 217) (v := (0 : Int32)) (mx_dd dd_X12_keeps_3 3 (217, .iconst 0, 1) rfl) (by decide) ?_
    refine mx_istore_n (pc := 218) (mx_dd dd_X12_keeps_3 4 (218, .istore_n 2, 1) rfl) rfl (by decide) (lv' := [(2, _), (0, _), (1, _)]) rfl ?_
    refine mx_sel [1, 0] rfl ?_
    exact P
  · have P := P.2 c194
    refine mx_aload_n (pc := 197) 0 (mx_dd dd_X12_keeps_2 31 (197, .aload_n 0, 1) rfl) rfl rfl ?_
    refine mx_iload_n (pc := 198) 1 (mx_dd dd_X12_keeps_2 32 (198, .iload_n 1, 1) rfl) rfl rfl ?_
    refine mx_sipush (pc := 199) (v := (738 : Int32)) (mx_dd dd_X12_keeps_2 33 (199, .sipush 738, 3) rfl) (by decide) ?_
    refine mx_iadd (pc := 202) (mx_dd dd_X12_keeps_2 34 (202, .iadd, 1) rfl) ?_
    refine mx_iconst (pc := 203) (v := (4 : Int32)) (mx_dd dd_X12_keeps_2 35 (203, .iconst 4, 1) rfl) (by decide) ?_
    refine mx_iload_n (pc := 204) 2 (mx_dd dd_X12_keeps_2 36 (204, .iload_n 2, 1) rfl) rfl rfl ?_
    refine mx_imul (pc := 205) (mx_dd dd_X12_keeps_2 37 (205, .imul, 1) rfl) ?_
    refine mx_iadd (pc := 206) (mx_dd dd_X12_keeps_2 38 (206, .iadd, 1) rfl) ?_
    refine mx_iload_n (pc := 207) 2 (mx_dd dd_X12_keeps_2 39 (207, .iload_n 2, 1) rfl) rfl rfl ?_
    obtain ⟨g1, P⟩ := P
    obtain ⟨g2, P⟩ := P
    refine mx_cVV (pc := 208) (Y := mY_X12_keepsHandle) (As := [.int _, .int _]) mx_ml_X12_694 mx_y_X12_keepsHandle rfl g2 (by decide) rfl (by decide) rfl (mx_dd dd_X12_keeps_3 0 (208, .invokevirtual 694, 3) rfl) g1 (by decide) P (fun h1 P => ?_)
    refine mx_iinc (pc := 211) 2 (mx_dd dd_X12_keeps_3 1 (211, .iinc 2 1, 3) rfl) rfl (mx_kadd (by decide : Int32.ofInt 1 = (1 : Int32))) (by decide) (lv' := [(2, _), (0, _), (1, _)]) rfl ?_
    refine mx_goto (pc := 214) 191 (mx_dd dd_X12_keeps_3 2 (214, .goto (-23), 3) rfl) rfl ?_
    refine mx_sel [1, 2, 0] rfl ?_
    exact P
theorem b_X12_keeps_219 {d : Nat} {h : mxH} {Q : mxRes → mxH → Prop} (x0 : Nat) (x2 : Int32)
    (P : (((8 : Int32) ≤ x2 → mx_SX mY_X12_keeps d 253 [(0, .ref x0), (2, .int (0 : Int32))] [] h Q) ∧ (¬ (8 : Int32) ≤ x2 → hpK h x0 = 12 ∧ ∃ b1 : Nat, hpR h x0 81 = some b1 ∧ ∃ b2 : Nat, hpR h x0 57 = some b2 ∧ hpK h b2 = 15 ∧ vp_in x2 (hpZ h b2) ∧ hpK h b1 = 15 ∧ vp_in (((42 : Int32) * (hpI h x0 82)) + x2) (hpZ h b1) ∧ ∀ h1 : mxH, h1 = hsL h b1 (((42 : Int32) * (hpI h x0 82)) + x2).toNatClampNeg (hpL h b2 x2.toNatClampNeg) → mx_SX mY_X12_keeps d 219 [(0, .ref x0), (2, .int (x2 + (1 : Int32)))] [] h1 Q))) : mx_SX mY_X12_keeps d 219 [(0, .ref x0), (2, .int x2)] [] h Q := by
  refine mx_iload_n (pc := 219) 1 (mx_dd dd_X12_keeps_3 5 (219, .iload_n 2, 1) rfl) rfl rfl ?_
  refine mx_bipush (pc := 220) (v := (8 : Int32)) (mx_dd dd_X12_keeps_3 6 (220, .bipush 8, 2) rfl) (by decide) ?_
  refine mx_icmp_ge (pc := 222) 251 (mx_dd dd_X12_keeps_3 7 (222, .if_icmp .ge 29, 3) rfl) rfl (fun c222 => ?_) (fun c222 => ?_)
  · have P := P.1 c222
    refine mx_iconst (pc := 251) (v := (0 : Int32)) (mx_dd dd_X12_keeps_3 23 (251, .iconst 0, 1) rfl) (by decide) ?_
    refine mx_istore_n (pc := 252) (mx_dd dd_X12_keeps_3 24 (252, .istore_n 2, 1) rfl) rfl (by decide) (lv' := [(2, _), (0, _)]) rfl ?_
    refine mx_sel [1, 0] rfl ?_
    exact P
  · have P := P.2 c222
    refine mx_aload_n (pc := 225) 0 (mx_dd dd_X12_keeps_3 8 (225, .aload_n 0, 1) rfl) rfl rfl ?_
    obtain ⟨g1, P⟩ := P
    obtain ⟨b1, g2, P⟩ := P
    refine mx_getR (pc := 226) mx_fl_X12_688 g1 rfl g2 (mx_dd dd_X12_keeps_3 9 (226, .getfield 688, 3) rfl) ?_
    refine mx_bipush (pc := 229) (v := (42 : Int32)) (mx_dd dd_X12_keeps_3 10 (229, .bipush 42, 2) rfl) (by decide) ?_
    refine mx_aload_n (pc := 231) 0 (mx_dd dd_X12_keeps_3 11 (231, .aload_n 0, 1) rfl) rfl rfl ?_
    refine mx_getI (pc := 232) mx_fl_X12_337 g1 rfl (mx_dd dd_X12_keeps_3 12 (232, .getfield 337, 3) rfl) ?_
    refine mx_imul (pc := 235) (mx_dd dd_X12_keeps_3 13 (235, .imul, 1) rfl) ?_
    refine mx_iload_n (pc := 236) 1 (mx_dd dd_X12_keeps_3 14 (236, .iload_n 2, 1) rfl) rfl rfl ?_
    refine mx_iadd (pc := 237) (mx_dd dd_X12_keeps_3 15 (237, .iadd, 1) rfl) ?_
    refine mx_aload_n (pc := 238) 0 (mx_dd dd_X12_keeps_3 16 (238, .aload_n 0, 1) rfl) rfl rfl ?_
    obtain ⟨b2, g3, P⟩ := P
    refine mx_getR (pc := 239) mx_fl_X12_361 g1 rfl g3 (mx_dd dd_X12_keeps_3 17 (239, .getfield 361, 3) rfl) ?_
    refine mx_iload_n (pc := 242) 1 (mx_dd dd_X12_keeps_3 18 (242, .iload_n 2, 1) rfl) rfl rfl ?_
    obtain ⟨g4, P⟩ := P
    obtain ⟨g5, P⟩ := P
    refine mx_lald (pc := 243) g4 g5 (mx_dd dd_X12_keeps_3 19 (243, .laload, 1) rfl) ?_
    obtain ⟨g6, P⟩ := P
    obtain ⟨g7, P⟩ := P
    refine mx_last (pc := 244) g6 g7 (mx_dd dd_X12_keeps_3 20 (244, .lastore, 1) rfl) ?_
    have P := P _ rfl
    refine mx_iinc (pc := 245) 1 (mx_dd dd_X12_keeps_3 21 (245, .iinc 2 1, 3) rfl) rfl (mx_kadd (by decide : Int32.ofInt 1 = (1 : Int32))) (by decide) (lv' := [(2, _), (0, _)]) rfl ?_
    refine mx_goto (pc := 248) 219 (mx_dd dd_X12_keeps_3 22 (248, .goto (-29), 3) rfl) rfl ?_
    refine mx_sel [1, 0] rfl ?_
    exact P
theorem b_X12_keeps_253 {d : Nat} {h : mxH} {Q : mxRes → mxH → Prop} (x0 : Nat) (x2 : Int32)
    (P : (((34 : Int32) ≤ x2 → hpK h x0 = 12 ∧ ∀ h1 : mxH, h1 = hsI h x0 82 ((hpI h x0 82) + (1 : Int32)) → Q (.inl none) h1) ∧ (¬ (34 : Int32) ≤ x2 → hpK h x0 = 12 ∧ ∃ b1 : Nat, hpR h x0 81 = some b1 ∧ ∃ b2 : Nat, hpR h x0 72 = some b2 ∧ hpK h b2 = 15 ∧ vp_in x2 (hpZ h b2) ∧ hpK h b1 = 15 ∧ vp_in ((((42 : Int32) * (hpI h x0 82)) + (8 : Int32)) + x2) (hpZ h b1) ∧ ∀ h2 : mxH, h2 = hsL h b1 ((((42 : Int32) * (hpI h x0 82)) + (8 : Int32)) + x2).toNatClampNeg (hpL h b2 x2.toNatClampNeg) → mx_SX mY_X12_keeps d 253 [(0, .ref x0), (2, .int (x2 + (1 : Int32)))] [] h2 Q))) : mx_SX mY_X12_keeps d 253 [(0, .ref x0), (2, .int x2)] [] h Q := by
  refine mx_iload_n (pc := 253) 1 (mx_dd dd_X12_keeps_3 25 (253, .iload_n 2, 1) rfl) rfl rfl ?_
  refine mx_bipush (pc := 254) (v := (34 : Int32)) (mx_dd dd_X12_keeps_3 26 (254, .bipush 34, 2) rfl) (by decide) ?_
  refine mx_icmp_ge (pc := 256) 288 (mx_dd dd_X12_keeps_3 27 (256, .if_icmp .ge 32, 3) rfl) rfl (fun c256 => ?_) (fun c256 => ?_)
  · have P := P.1 c256
    refine mx_aload_n (pc := 288) 0 (mx_dd dd_X12_keeps_4 5 (288, .aload_n 0, 1) rfl) rfl rfl ?_
    refine mx_dup (pc := 289) (mx_dd dd_X12_keeps_4 6 (289, .dup, 1) rfl) rfl ?_
    obtain ⟨g1, P⟩ := P
    refine mx_getI (pc := 290) mx_fl_X12_337 g1 rfl (mx_dd dd_X12_keeps_4 7 (290, .getfield 337, 3) rfl) ?_
    refine mx_iconst (pc := 293) (v := (1 : Int32)) (mx_dd dd_X12_keeps_4 8 (293, .iconst 1, 1) rfl) (by decide) ?_
    refine mx_iadd (pc := 294) (mx_dd dd_X12_keeps_4 9 (294, .iadd, 1) rfl) ?_
    refine mx_putI (pc := 295) mx_fl_X12_337 g1 rfl (.inl rfl) rfl rfl (mx_dd dd_X12_keeps_4 10 (295, .putfield 337, 3) rfl) ?_
    have P := P _ rfl
    exact mx_return (pc := 298) (mx_dd dd_X12_keeps_4 11 (298, .return_, 1) rfl) rfl P
  · have P := P.2 c256
    refine mx_aload_n (pc := 259) 0 (mx_dd dd_X12_keeps_3 28 (259, .aload_n 0, 1) rfl) rfl rfl ?_
    obtain ⟨g2, P⟩ := P
    obtain ⟨b1, g3, P⟩ := P
    refine mx_getR (pc := 260) mx_fl_X12_688 g2 rfl g3 (mx_dd dd_X12_keeps_3 29 (260, .getfield 688, 3) rfl) ?_
    refine mx_bipush (pc := 263) (v := (42 : Int32)) (mx_dd dd_X12_keeps_3 30 (263, .bipush 42, 2) rfl) (by decide) ?_
    refine mx_aload_n (pc := 265) 0 (mx_dd dd_X12_keeps_3 31 (265, .aload_n 0, 1) rfl) rfl rfl ?_
    refine mx_getI (pc := 266) mx_fl_X12_337 g2 rfl (mx_dd dd_X12_keeps_3 32 (266, .getfield 337, 3) rfl) ?_
    refine mx_imul (pc := 269) (mx_dd dd_X12_keeps_3 33 (269, .imul, 1) rfl) ?_
    refine mx_bipush (pc := 270) (v := (8 : Int32)) (mx_dd dd_X12_keeps_3 34 (270, .bipush 8, 2) rfl) (by decide) ?_
    refine mx_iadd (pc := 272) (mx_dd dd_X12_keeps_3 35 (272, .iadd, 1) rfl) ?_
    refine mx_iload_n (pc := 273) 1 (mx_dd dd_X12_keeps_3 36 (273, .iload_n 2, 1) rfl) rfl rfl ?_
    refine mx_iadd (pc := 274) (mx_dd dd_X12_keeps_3 37 (274, .iadd, 1) rfl) ?_
    refine mx_aload_n (pc := 275) 0 (mx_dd dd_X12_keeps_3 38 (275, .aload_n 0, 1) rfl) rfl rfl ?_
    obtain ⟨b2, g4, P⟩ := P
    refine mx_getR (pc := 276) mx_fl_X12_407 g2 rfl g4 (mx_dd dd_X12_keeps_3 39 (276, .getfield 407, 3) rfl) ?_
    refine mx_iload_n (pc := 279) 1 (mx_dd dd_X12_keeps_4 0 (279, .iload_n 2, 1) rfl) rfl rfl ?_
    obtain ⟨g5, P⟩ := P
    obtain ⟨g6, P⟩ := P
    refine mx_lald (pc := 280) g5 g6 (mx_dd dd_X12_keeps_4 1 (280, .laload, 1) rfl) ?_
    obtain ⟨g7, P⟩ := P
    obtain ⟨g8, P⟩ := P
    refine mx_last (pc := 281) g7 g8 (mx_dd dd_X12_keeps_4 2 (281, .lastore, 1) rfl) ?_
    have P := P _ rfl
    refine mx_iinc (pc := 282) 1 (mx_dd dd_X12_keeps_4 3 (282, .iinc 2 1, 3) rfl) rfl (mx_kadd (by decide : Int32.ofInt 1 = (1 : Int32))) (by decide) (lv' := [(2, _), (0, _)]) rfl ?_
    refine mx_goto (pc := 285) 253 (mx_dd dd_X12_keeps_4 4 (285, .goto (-32), 3) rfl) rfl ?_
    refine mx_sel [1, 0] rfl ?_
    exact P
theorem b_X12_keepsHandle {d : Nat} {h : mxH} {Q : mxRes → mxH → Prop} (x0 : Nat) (x1 : Int32) (x2 : Int32)
    (P : 1 ≤ d ∧ hpK h x0 = 12 ∧ mx_SM mY_X12_handle (d - 1) [.ref x0, .int (0 : Int32), .int x2] h (mx_KI (fun v1 h1 => mx_SX mY_X12_keepsHandle d 15 [(0, .ref x0), (1, .int x1), (3, .int v1), (4, .int x2), (5, .int (x2 - (1 : Int32)))] [] h1 Q) (mx_XX mY_X12_keepsHandle Q))) : mx_SM mY_X12_keepsHandle d [.ref x0, .int x1, .int x2] h Q := by
  refine mx_SM_of (by decide) (Nat.le_of_ble_eq_true rfl) ?_
  show mx_SX mY_X12_keepsHandle d 0 [(0, .ref x0), (1, .int x1), (2, .int x2)] [] h Q
  refine mx_aload_n (pc := 0) 0 (mx_dd dd_X12_keepsHandle_0 0 (0, .aload_n 0, 1) rfl) rfl rfl ?_
  refine mx_iconst (pc := 1) (v := (0 : Int32)) (mx_dd dd_X12_keepsHandle_0 1 (1, .iconst 0, 1) rfl) (by decide) ?_
  refine mx_iload_n (pc := 2) 2 (mx_dd dd_X12_keepsHandle_0 2 (2, .iload_n 2, 1) rfl) rfl rfl ?_
  obtain ⟨g1, P⟩ := P
  obtain ⟨g2, P⟩ := P
  refine mx_cVI (pc := 3) (Y := mY_X12_handle) (As := [.int _, .int _]) mx_ml_X12_371 mx_y_X12_handle rfl g2 (by decide) rfl (by decide) rfl (mx_dd dd_X12_keepsHandle_0 3 (3, .invokevirtual 371, 3) rfl) g1 (by decide) P (fun v1 h1 P => ?_)
  refine mx_istore_n (pc := 6) (mx_dd dd_X12_keepsHandle_0 4 (6, .istore_n 3, 1) rfl) rfl (by decide) (lv' := [(3, _), (0, _), (1, _), (2, _)]) rfl ?_
  refine mx_iload_n (pc := 7) 3 (mx_dd dd_X12_keepsHandle_0 5 (7, .iload_n 2, 1) rfl) rfl rfl ?_
  refine mx_istore (pc := 8) (mx_dd dd_X12_keepsHandle_0 6 (8, .istore 4, 2) rfl) (by decide) (lv' := [(4, _), (3, _), (0, _), (1, _), (2, _)]) rfl ?_
  refine mx_iload_n (pc := 10) 4 (mx_dd dd_X12_keepsHandle_0 7 (10, .iload_n 2, 1) rfl) rfl rfl ?_
  refine mx_iconst (pc := 11) (v := (1 : Int32)) (mx_dd dd_X12_keepsHandle_0 8 (11, .iconst 1, 1) rfl) (by decide) ?_
  refine mx_isub (pc := 12) (mx_dd dd_X12_keepsHandle_0 9 (12, .isub, 1) rfl) ?_
  refine mx_istore (pc := 13) (mx_dd dd_X12_keepsHandle_0 10 (13, .istore 5, 2) rfl) (by decide) (lv' := [(5, _), (4, _), (3, _), (0, _), (1, _), (2, _)]) rfl ?_
  refine mx_sel [3, 4, 2, 1, 0] rfl ?_
  exact P
theorem b_X12_keepsHandle_15 {d : Nat} {h : mxH} {Q : mxRes → mxH → Prop} (x0 : Nat) (x1 : Int32) (x3 : Int32) (x4 : Int32) (x5 : Int32)
    (P : ((x5 < 0 → hpK h x0 = 12 ∧ ∃ b1 : Nat, hpR h x0 80 = some b1 ∧ hpK h b1 = 14 ∧ vp_in x1 (hpZ h b1) ∧ ∀ h1 : mxH, h1 = hsI h b1 x1.toNatClampNeg x4 → ∃ b2 : Nat, hpR h1 x0 80 = some b2 ∧ ((¬ x3 = (-1 : Int32) → ∃ b3 : Nat, hpR h1 x0 58 = some b3 ∧ hpK h1 b3 = 14 ∧ vp_in x3 (hpZ h1 b3) ∧ hpK h1 b2 = 14 ∧ vp_in (x1 + (1 : Int32)) (hpZ h1 b2) ∧ ∀ h2 : mxH, h2 = hsI h1 b2 (x1 + (1 : Int32)).toNatClampNeg (hpI h1 b3 x3.toNatClampNeg) → ∃ b4 : Nat, hpR h2 x0 80 = some b4 ∧ ((¬ x3 = (-1 : Int32) → ∃ b5 : Nat, hpR h2 x0 59 = some b5 ∧ hpK h2 b5 = 14 ∧ vp_in x3 (hpZ h2 b5) ∧ hpK h2 b4 = 14 ∧ vp_in (x1 + (2 : Int32)) (hpZ h2 b4) ∧ ∀ h3 : mxH, h3 = hsI h2 b4 (x1 + (2 : Int32)).toNatClampNeg (hpI h2 b5 x3.toNatClampNeg) → ∃ b6 : Nat, hpR h3 x0 80 = some b6 ∧ ((¬ x3 = (-1 : Int32) → ∃ b7 : Nat, hpR h3 x0 60 = some b7 ∧ hpK h3 b7 = 14 ∧ vp_in x3 (hpZ h3 b7) ∧ hpK h3 b6 = 14 ∧ vp_in (x1 + (3 : Int32)) (hpZ h3 b6) ∧ ∀ h4 : mxH, h4 = hsI h3 b6 (x1 + (3 : Int32)).toNatClampNeg (hpI h3 b7 x3.toNatClampNeg) → Q (.inl none) h4) ∧ (x3 = (-1 : Int32) → hpK h3 b6 = 14 ∧ vp_in (x1 + (3 : Int32)) (hpZ h3 b6) ∧ ∀ h5 : mxH, h5 = hsI h3 b6 (x1 + (3 : Int32)).toNatClampNeg (0 : Int32) → Q (.inl none) h5))) ∧ (x3 = (-1 : Int32) → hpK h2 b4 = 14 ∧ vp_in (x1 + (2 : Int32)) (hpZ h2 b4) ∧ ∀ h6 : mxH, h6 = hsI h2 b4 (x1 + (2 : Int32)).toNatClampNeg (0 : Int32) → ∃ b8 : Nat, hpR h6 x0 80 = some b8 ∧ ((¬ x3 = (-1 : Int32) → ∃ b9 : Nat, hpR h6 x0 60 = some b9 ∧ hpK h6 b9 = 14 ∧ vp_in x3 (hpZ h6 b9) ∧ hpK h6 b8 = 14 ∧ vp_in (x1 + (3 : Int32)) (hpZ h6 b8) ∧ ∀ h7 : mxH, h7 = hsI h6 b8 (x1 + (3 : Int32)).toNatClampNeg (hpI h6 b9 x3.toNatClampNeg) → Q (.inl none) h7) ∧ (x3 = (-1 : Int32) → hpK h6 b8 = 14 ∧ vp_in (x1 + (3 : Int32)) (hpZ h6 b8) ∧ ∀ h8 : mxH, h8 = hsI h6 b8 (x1 + (3 : Int32)).toNatClampNeg (0 : Int32) → Q (.inl none) h8))))) ∧ (x3 = (-1 : Int32) → hpK h1 b2 = 14 ∧ vp_in (x1 + (1 : Int32)) (hpZ h1 b2) ∧ ∀ h9 : mxH, h9 = hsI h1 b2 (x1 + (1 : Int32)).toNatClampNeg (0 : Int32) → ∃ b10 : Nat, hpR h9 x0 80 = some b10 ∧ ((¬ x3 = (-1 : Int32) → ∃ b11 : Nat, hpR h9 x0 59 = some b11 ∧ hpK h9 b11 = 14 ∧ vp_in x3 (hpZ h9 b11) ∧ hpK h9 b10 = 14 ∧ vp_in (x1 + (2 : Int32)) (hpZ h9 b10) ∧ ∀ h10 : mxH, h10 = hsI h9 b10 (x1 + (2 : Int32)).toNatClampNeg (hpI h9 b11 x3.toNatClampNeg) → ∃ b12 : Nat, hpR h10 x0 80 = some b12 ∧ ((¬ x3 = (-1 : Int32) → ∃ b13 : Nat, hpR h10 x0 60 = some b13 ∧ hpK h10 b13 = 14 ∧ vp_in x3 (hpZ h10 b13) ∧ hpK h10 b12 = 14 ∧ vp_in (x1 + (3 : Int32)) (hpZ h10 b12) ∧ ∀ h11 : mxH, h11 = hsI h10 b12 (x1 + (3 : Int32)).toNatClampNeg (hpI h10 b13 x3.toNatClampNeg) → Q (.inl none) h11) ∧ (x3 = (-1 : Int32) → hpK h10 b12 = 14 ∧ vp_in (x1 + (3 : Int32)) (hpZ h10 b12) ∧ ∀ h12 : mxH, h12 = hsI h10 b12 (x1 + (3 : Int32)).toNatClampNeg (0 : Int32) → Q (.inl none) h12))) ∧ (x3 = (-1 : Int32) → hpK h9 b10 = 14 ∧ vp_in (x1 + (2 : Int32)) (hpZ h9 b10) ∧ ∀ h13 : mxH, h13 = hsI h9 b10 (x1 + (2 : Int32)).toNatClampNeg (0 : Int32) → ∃ b14 : Nat, hpR h13 x0 80 = some b14 ∧ ((¬ x3 = (-1 : Int32) → ∃ b15 : Nat, hpR h13 x0 60 = some b15 ∧ hpK h13 b15 = 14 ∧ vp_in x3 (hpZ h13 b15) ∧ hpK h13 b14 = 14 ∧ vp_in (x1 + (3 : Int32)) (hpZ h13 b14) ∧ ∀ h14 : mxH, h14 = hsI h13 b14 (x1 + (3 : Int32)).toNatClampNeg (hpI h13 b15 x3.toNatClampNeg) → Q (.inl none) h14) ∧ (x3 = (-1 : Int32) → hpK h13 b14 = 14 ∧ vp_in (x1 + (3 : Int32)) (hpZ h13 b14) ∧ ∀ h15 : mxH, h15 = hsI h13 b14 (x1 + (3 : Int32)).toNatClampNeg (0 : Int32) → Q (.inl none) h15))))))) ∧ (¬ x5 < 0 → ((x3 = (-1 : Int32) → mx_SX mY_X12_keepsHandle d 40 [(0, .ref x0), (1, .int x1), (3, .int x3), (4, .int x4), (5, .int x5)] [] h Q) ∧ (¬ x3 = (-1 : Int32) → 1 ≤ d ∧ hpK h x0 = 12 ∧ mx_SM mY_X12_handle (d - 1) [.ref x0, .int (0 : Int32), .int x5] h (mx_KI (fun v1 h16 => ((¬ v1 = x3 → mx_SX mY_X12_keepsHandle d 40 [(0, .ref x0), (1, .int x1), (3, .int x3), (4, .int x4), (5, .int x5)] [] h16 Q) ∧ (v1 = x3 → mx_SX mY_X12_keepsHandle d 40 [(0, .ref x0), (1, .int x1), (3, .int x3), (4, .int x5), (5, .int x5)] [] h16 Q))) (mx_XX mY_X12_keepsHandle Q))))))) : mx_SX mY_X12_keepsHandle d 15 [(0, .ref x0), (1, .int x1), (3, .int x3), (4, .int x4), (5, .int x5)] [] h Q := by
  refine mx_iload (pc := 15) 4 (mx_dd dd_X12_keepsHandle_0 11 (15, .iload 5, 2) rfl) rfl ?_
  refine mx_if_lt (pc := 17) 46 (mx_dd dd_X12_keepsHandle_0 12 (17, .ifCond .lt 29, 3) rfl) rfl (fun c17 => ?_) (fun c17 => ?_)
  · have P := P.1 c17
    refine mx_aload_n (pc := 46) 0 (mx_dd dd_X12_keepsHandle_0 26 (46, .aload_n 0, 1) rfl) rfl rfl ?_
    obtain ⟨g1, P⟩ := P
    obtain ⟨b1, g2, P⟩ := P
    refine mx_getR (pc := 47) mx_fl_X12_340 g1 rfl g2 (mx_dd dd_X12_keepsHandle_0 27 (47, .getfield 340, 3) rfl) ?_
    refine mx_iload_n (pc := 50) 1 (mx_dd dd_X12_keepsHandle_0 28 (50, .iload_n 1, 1) rfl) rfl rfl ?_
    refine mx_iload (pc := 51) 3 (mx_dd dd_X12_keepsHandle_0 29 (51, .iload 4, 2) rfl) rfl ?_
    obtain ⟨g3, P⟩ := P
    obtain ⟨g4, P⟩ := P
    refine mx_iast (pc := 53) g3 g4 (mx_dd dd_X12_keepsHandle_0 30 (53, .iastore, 1) rfl) ?_
    have P := P _ rfl
    refine mx_aload_n (pc := 54) 0 (mx_dd dd_X12_keepsHandle_0 31 (54, .aload_n 0, 1) rfl) rfl rfl ?_
    obtain ⟨b2, g5, P⟩ := P
    refine mx_getR (pc := 55) mx_fl_X12_340 g1 rfl g5 (mx_dd dd_X12_keepsHandle_0 32 (55, .getfield 340, 3) rfl) ?_
    refine mx_iload_n (pc := 58) 1 (mx_dd dd_X12_keepsHandle_0 33 (58, .iload_n 1, 1) rfl) rfl rfl ?_
    refine mx_iconst (pc := 59) (v := (1 : Int32)) (mx_dd dd_X12_keepsHandle_0 34 (59, .iconst 1, 1) rfl) (by decide) ?_
    refine mx_iadd (pc := 60) (mx_dd dd_X12_keepsHandle_0 35 (60, .iadd, 1) rfl) ?_
    refine mx_iload_n (pc := 61) 2 (mx_dd dd_X12_keepsHandle_0 36 (61, .iload_n 3, 1) rfl) rfl rfl ?_
    refine mx_iconst (pc := 62) (v := (-1 : Int32)) (mx_dd dd_X12_keepsHandle_0 37 (62, .iconst (-1), 1) rfl) (by decide) ?_
    refine mx_icmp_ne (pc := 63) 70 (mx_dd dd_X12_keepsHandle_0 38 (63, .if_icmp .ne 7, 3) rfl) rfl (fun c63 => ?_) (fun c63 => ?_)
    · have P := P.1 c63
      refine mx_aload_n (pc := 70) 0 (mx_dd dd_X12_keepsHandle_1 1 (70, .aload_n 0, 1) rfl) rfl rfl ?_
      obtain ⟨b3, g6, P⟩ := P
      refine mx_getR (pc := 71) mx_fl_X12_380 g1 rfl g6 (mx_dd dd_X12_keepsHandle_1 2 (71, .getfield 380, 3) rfl) ?_
      refine mx_iload_n (pc := 74) 2 (mx_dd dd_X12_keepsHandle_1 3 (74, .iload_n 3, 1) rfl) rfl rfl ?_
      obtain ⟨g7, P⟩ := P
      obtain ⟨g8, P⟩ := P
      refine mx_iald (pc := 75) g7 g8 (mx_dd dd_X12_keepsHandle_1 4 (75, .iaload, 1) rfl) ?_
      obtain ⟨g9, P⟩ := P
      obtain ⟨g10, P⟩ := P
      refine mx_iast (pc := 76) g9 g10 (mx_dd dd_X12_keepsHandle_1 5 (76, .iastore, 1) rfl) ?_
      have P := P _ rfl
      refine mx_aload_n (pc := 77) 0 (mx_dd dd_X12_keepsHandle_1 6 (77, .aload_n 0, 1) rfl) rfl rfl ?_
      obtain ⟨b4, g11, P⟩ := P
      refine mx_getR (pc := 78) mx_fl_X12_340 g1 rfl g11 (mx_dd dd_X12_keepsHandle_1 7 (78, .getfield 340, 3) rfl) ?_
      refine mx_iload_n (pc := 81) 1 (mx_dd dd_X12_keepsHandle_1 8 (81, .iload_n 1, 1) rfl) rfl rfl ?_
      refine mx_iconst (pc := 82) (v := (2 : Int32)) (mx_dd dd_X12_keepsHandle_1 9 (82, .iconst 2, 1) rfl) (by decide) ?_
      refine mx_iadd (pc := 83) (mx_dd dd_X12_keepsHandle_1 10 (83, .iadd, 1) rfl) ?_
      refine mx_iload_n (pc := 84) 2 (mx_dd dd_X12_keepsHandle_1 11 (84, .iload_n 3, 1) rfl) rfl rfl ?_
      refine mx_iconst (pc := 85) (v := (-1 : Int32)) (mx_dd dd_X12_keepsHandle_1 12 (85, .iconst (-1), 1) rfl) (by decide) ?_
      refine mx_icmp_ne (pc := 86) 93 (mx_dd dd_X12_keepsHandle_1 13 (86, .if_icmp .ne 7, 3) rfl) rfl (fun c86 => ?_) (fun c86 => ?_)
      · have P := P.1 c86
        refine mx_aload_n (pc := 93) 0 (mx_dd dd_X12_keepsHandle_1 16 (93, .aload_n 0, 1) rfl) rfl rfl ?_
        obtain ⟨b5, g12, P⟩ := P
        refine mx_getR (pc := 94) mx_fl_X12_389 g1 rfl g12 (mx_dd dd_X12_keepsHandle_1 17 (94, .getfield 389, 3) rfl) ?_
        refine mx_iload_n (pc := 97) 2 (mx_dd dd_X12_keepsHandle_1 18 (97, .iload_n 3, 1) rfl) rfl rfl ?_
        obtain ⟨g13, P⟩ := P
        obtain ⟨g14, P⟩ := P
        refine mx_iald (pc := 98) g13 g14 (mx_dd dd_X12_keepsHandle_1 19 (98, .iaload, 1) rfl) ?_
        obtain ⟨g15, P⟩ := P
        obtain ⟨g16, P⟩ := P
        refine mx_iast (pc := 99) g15 g16 (mx_dd dd_X12_keepsHandle_1 20 (99, .iastore, 1) rfl) ?_
        have P := P _ rfl
        refine mx_aload_n (pc := 100) 0 (mx_dd dd_X12_keepsHandle_1 21 (100, .aload_n 0, 1) rfl) rfl rfl ?_
        obtain ⟨b6, g17, P⟩ := P
        refine mx_getR (pc := 101) mx_fl_X12_340 g1 rfl g17 (mx_dd dd_X12_keepsHandle_1 22 (101, .getfield 340, 3) rfl) ?_
        refine mx_iload_n (pc := 104) 1 (mx_dd dd_X12_keepsHandle_1 23 (104, .iload_n 1, 1) rfl) rfl rfl ?_
        refine mx_iconst (pc := 105) (v := (3 : Int32)) (mx_dd dd_X12_keepsHandle_1 24 (105, .iconst 3, 1) rfl) (by decide) ?_
        refine mx_iadd (pc := 106) (mx_dd dd_X12_keepsHandle_1 25 (106, .iadd, 1) rfl) ?_
        refine mx_iload_n (pc := 107) 2 (mx_dd dd_X12_keepsHandle_1 26 (107, .iload_n 3, 1) rfl) rfl rfl ?_
        refine mx_iconst (pc := 108) (v := (-1 : Int32)) (mx_dd dd_X12_keepsHandle_1 27 (108, .iconst (-1), 1) rfl) (by decide) ?_
        refine mx_icmp_ne (pc := 109) 116 (mx_dd dd_X12_keepsHandle_1 28 (109, .if_icmp .ne 7, 3) rfl) rfl (fun c109 => ?_) (fun c109 => ?_)
        · have P := P.1 c109
          refine mx_aload_n (pc := 116) 0 (mx_dd dd_X12_keepsHandle_1 31 (116, .aload_n 0, 1) rfl) rfl rfl ?_
          obtain ⟨b7, g18, P⟩ := P
          refine mx_getR (pc := 117) mx_fl_X12_392 g1 rfl g18 (mx_dd dd_X12_keepsHandle_1 32 (117, .getfield 392, 3) rfl) ?_
          refine mx_iload_n (pc := 120) 2 (mx_dd dd_X12_keepsHandle_1 33 (120, .iload_n 3, 1) rfl) rfl rfl ?_
          obtain ⟨g19, P⟩ := P
          obtain ⟨g20, P⟩ := P
          refine mx_iald (pc := 121) g19 g20 (mx_dd dd_X12_keepsHandle_1 34 (121, .iaload, 1) rfl) ?_
          obtain ⟨g21, P⟩ := P
          obtain ⟨g22, P⟩ := P
          refine mx_iast (pc := 122) g21 g22 (mx_dd dd_X12_keepsHandle_1 35 (122, .iastore, 1) rfl) ?_
          have P := P _ rfl
          exact mx_return (pc := 123) (mx_dd dd_X12_keepsHandle_1 36 (123, .return_, 1) rfl) rfl P
        · have P := P.2 c109
          refine mx_iconst (pc := 112) (v := (0 : Int32)) (mx_dd dd_X12_keepsHandle_1 29 (112, .iconst 0, 1) rfl) (by decide) ?_
          refine mx_goto (pc := 113) 122 (mx_dd dd_X12_keepsHandle_1 30 (113, .goto 9, 3) rfl) rfl ?_
          obtain ⟨g23, P⟩ := P
          obtain ⟨g24, P⟩ := P
          refine mx_iast (pc := 122) g23 g24 (mx_dd dd_X12_keepsHandle_1 35 (122, .iastore, 1) rfl) ?_
          have P := P _ rfl
          exact mx_return (pc := 123) (mx_dd dd_X12_keepsHandle_1 36 (123, .return_, 1) rfl) rfl P
      · have P := P.2 c86
        refine mx_iconst (pc := 89) (v := (0 : Int32)) (mx_dd dd_X12_keepsHandle_1 14 (89, .iconst 0, 1) rfl) (by decide) ?_
        refine mx_goto (pc := 90) 99 (mx_dd dd_X12_keepsHandle_1 15 (90, .goto 9, 3) rfl) rfl ?_
        obtain ⟨g25, P⟩ := P
        obtain ⟨g26, P⟩ := P
        refine mx_iast (pc := 99) g25 g26 (mx_dd dd_X12_keepsHandle_1 20 (99, .iastore, 1) rfl) ?_
        have P := P _ rfl
        refine mx_aload_n (pc := 100) 0 (mx_dd dd_X12_keepsHandle_1 21 (100, .aload_n 0, 1) rfl) rfl rfl ?_
        obtain ⟨b8, g27, P⟩ := P
        refine mx_getR (pc := 101) mx_fl_X12_340 g1 rfl g27 (mx_dd dd_X12_keepsHandle_1 22 (101, .getfield 340, 3) rfl) ?_
        refine mx_iload_n (pc := 104) 1 (mx_dd dd_X12_keepsHandle_1 23 (104, .iload_n 1, 1) rfl) rfl rfl ?_
        refine mx_iconst (pc := 105) (v := (3 : Int32)) (mx_dd dd_X12_keepsHandle_1 24 (105, .iconst 3, 1) rfl) (by decide) ?_
        refine mx_iadd (pc := 106) (mx_dd dd_X12_keepsHandle_1 25 (106, .iadd, 1) rfl) ?_
        refine mx_iload_n (pc := 107) 2 (mx_dd dd_X12_keepsHandle_1 26 (107, .iload_n 3, 1) rfl) rfl rfl ?_
        refine mx_iconst (pc := 108) (v := (-1 : Int32)) (mx_dd dd_X12_keepsHandle_1 27 (108, .iconst (-1), 1) rfl) (by decide) ?_
        refine mx_icmp_ne (pc := 109) 116 (mx_dd dd_X12_keepsHandle_1 28 (109, .if_icmp .ne 7, 3) rfl) rfl (fun c109 => ?_) (fun c109 => ?_)
        · have P := P.1 c109
          refine mx_aload_n (pc := 116) 0 (mx_dd dd_X12_keepsHandle_1 31 (116, .aload_n 0, 1) rfl) rfl rfl ?_
          obtain ⟨b9, g28, P⟩ := P
          refine mx_getR (pc := 117) mx_fl_X12_392 g1 rfl g28 (mx_dd dd_X12_keepsHandle_1 32 (117, .getfield 392, 3) rfl) ?_
          refine mx_iload_n (pc := 120) 2 (mx_dd dd_X12_keepsHandle_1 33 (120, .iload_n 3, 1) rfl) rfl rfl ?_
          obtain ⟨g29, P⟩ := P
          obtain ⟨g30, P⟩ := P
          refine mx_iald (pc := 121) g29 g30 (mx_dd dd_X12_keepsHandle_1 34 (121, .iaload, 1) rfl) ?_
          obtain ⟨g31, P⟩ := P
          obtain ⟨g32, P⟩ := P
          refine mx_iast (pc := 122) g31 g32 (mx_dd dd_X12_keepsHandle_1 35 (122, .iastore, 1) rfl) ?_
          have P := P _ rfl
          exact mx_return (pc := 123) (mx_dd dd_X12_keepsHandle_1 36 (123, .return_, 1) rfl) rfl P
        · have P := P.2 c109
          refine mx_iconst (pc := 112) (v := (0 : Int32)) (mx_dd dd_X12_keepsHandle_1 29 (112, .iconst 0, 1) rfl) (by decide) ?_
          refine mx_goto (pc := 113) 122 (mx_dd dd_X12_keepsHandle_1 30 (113, .goto 9, 3) rfl) rfl ?_
          obtain ⟨g33, P⟩ := P
          obtain ⟨g34, P⟩ := P
          refine mx_iast (pc := 122) g33 g34 (mx_dd dd_X12_keepsHandle_1 35 (122, .iastore, 1) rfl) ?_
          have P := P _ rfl
          exact mx_return (pc := 123) (mx_dd dd_X12_keepsHandle_1 36 (123, .return_, 1) rfl) rfl P
    · have P := P.2 c63
      refine mx_iconst (pc := 66) (v := (0 : Int32)) (mx_dd dd_X12_keepsHandle_0 39 (66, .iconst 0, 1) rfl) (by decide) ?_
      refine mx_goto (pc := 67) 76 (mx_dd dd_X12_keepsHandle_1 0 (67, .goto 9, 3) rfl) rfl ?_
      obtain ⟨g35, P⟩ := P
      obtain ⟨g36, P⟩ := P
      refine mx_iast (pc := 76) g35 g36 (mx_dd dd_X12_keepsHandle_1 5 (76, .iastore, 1) rfl) ?_
      have P := P _ rfl
      refine mx_aload_n (pc := 77) 0 (mx_dd dd_X12_keepsHandle_1 6 (77, .aload_n 0, 1) rfl) rfl rfl ?_
      obtain ⟨b10, g37, P⟩ := P
      refine mx_getR (pc := 78) mx_fl_X12_340 g1 rfl g37 (mx_dd dd_X12_keepsHandle_1 7 (78, .getfield 340, 3) rfl) ?_
      refine mx_iload_n (pc := 81) 1 (mx_dd dd_X12_keepsHandle_1 8 (81, .iload_n 1, 1) rfl) rfl rfl ?_
      refine mx_iconst (pc := 82) (v := (2 : Int32)) (mx_dd dd_X12_keepsHandle_1 9 (82, .iconst 2, 1) rfl) (by decide) ?_
      refine mx_iadd (pc := 83) (mx_dd dd_X12_keepsHandle_1 10 (83, .iadd, 1) rfl) ?_
      refine mx_iload_n (pc := 84) 2 (mx_dd dd_X12_keepsHandle_1 11 (84, .iload_n 3, 1) rfl) rfl rfl ?_
      refine mx_iconst (pc := 85) (v := (-1 : Int32)) (mx_dd dd_X12_keepsHandle_1 12 (85, .iconst (-1), 1) rfl) (by decide) ?_
      refine mx_icmp_ne (pc := 86) 93 (mx_dd dd_X12_keepsHandle_1 13 (86, .if_icmp .ne 7, 3) rfl) rfl (fun c86 => ?_) (fun c86 => ?_)
      · have P := P.1 c86
        refine mx_aload_n (pc := 93) 0 (mx_dd dd_X12_keepsHandle_1 16 (93, .aload_n 0, 1) rfl) rfl rfl ?_
        obtain ⟨b11, g38, P⟩ := P
        refine mx_getR (pc := 94) mx_fl_X12_389 g1 rfl g38 (mx_dd dd_X12_keepsHandle_1 17 (94, .getfield 389, 3) rfl) ?_
        refine mx_iload_n (pc := 97) 2 (mx_dd dd_X12_keepsHandle_1 18 (97, .iload_n 3, 1) rfl) rfl rfl ?_
        obtain ⟨g39, P⟩ := P
        obtain ⟨g40, P⟩ := P
        refine mx_iald (pc := 98) g39 g40 (mx_dd dd_X12_keepsHandle_1 19 (98, .iaload, 1) rfl) ?_
        obtain ⟨g41, P⟩ := P
        obtain ⟨g42, P⟩ := P
        refine mx_iast (pc := 99) g41 g42 (mx_dd dd_X12_keepsHandle_1 20 (99, .iastore, 1) rfl) ?_
        have P := P _ rfl
        refine mx_aload_n (pc := 100) 0 (mx_dd dd_X12_keepsHandle_1 21 (100, .aload_n 0, 1) rfl) rfl rfl ?_
        obtain ⟨b12, g43, P⟩ := P
        refine mx_getR (pc := 101) mx_fl_X12_340 g1 rfl g43 (mx_dd dd_X12_keepsHandle_1 22 (101, .getfield 340, 3) rfl) ?_
        refine mx_iload_n (pc := 104) 1 (mx_dd dd_X12_keepsHandle_1 23 (104, .iload_n 1, 1) rfl) rfl rfl ?_
        refine mx_iconst (pc := 105) (v := (3 : Int32)) (mx_dd dd_X12_keepsHandle_1 24 (105, .iconst 3, 1) rfl) (by decide) ?_
        refine mx_iadd (pc := 106) (mx_dd dd_X12_keepsHandle_1 25 (106, .iadd, 1) rfl) ?_
        refine mx_iload_n (pc := 107) 2 (mx_dd dd_X12_keepsHandle_1 26 (107, .iload_n 3, 1) rfl) rfl rfl ?_
        refine mx_iconst (pc := 108) (v := (-1 : Int32)) (mx_dd dd_X12_keepsHandle_1 27 (108, .iconst (-1), 1) rfl) (by decide) ?_
        refine mx_icmp_ne (pc := 109) 116 (mx_dd dd_X12_keepsHandle_1 28 (109, .if_icmp .ne 7, 3) rfl) rfl (fun c109 => ?_) (fun c109 => ?_)
        · have P := P.1 c109
          refine mx_aload_n (pc := 116) 0 (mx_dd dd_X12_keepsHandle_1 31 (116, .aload_n 0, 1) rfl) rfl rfl ?_
          obtain ⟨b13, g44, P⟩ := P
          refine mx_getR (pc := 117) mx_fl_X12_392 g1 rfl g44 (mx_dd dd_X12_keepsHandle_1 32 (117, .getfield 392, 3) rfl) ?_
          refine mx_iload_n (pc := 120) 2 (mx_dd dd_X12_keepsHandle_1 33 (120, .iload_n 3, 1) rfl) rfl rfl ?_
          obtain ⟨g45, P⟩ := P
          obtain ⟨g46, P⟩ := P
          refine mx_iald (pc := 121) g45 g46 (mx_dd dd_X12_keepsHandle_1 34 (121, .iaload, 1) rfl) ?_
          obtain ⟨g47, P⟩ := P
          obtain ⟨g48, P⟩ := P
          refine mx_iast (pc := 122) g47 g48 (mx_dd dd_X12_keepsHandle_1 35 (122, .iastore, 1) rfl) ?_
          have P := P _ rfl
          exact mx_return (pc := 123) (mx_dd dd_X12_keepsHandle_1 36 (123, .return_, 1) rfl) rfl P
        · have P := P.2 c109
          refine mx_iconst (pc := 112) (v := (0 : Int32)) (mx_dd dd_X12_keepsHandle_1 29 (112, .iconst 0, 1) rfl) (by decide) ?_
          refine mx_goto (pc := 113) 122 (mx_dd dd_X12_keepsHandle_1 30 (113, .goto 9, 3) rfl) rfl ?_
          obtain ⟨g49, P⟩ := P
          obtain ⟨g50, P⟩ := P
          refine mx_iast (pc := 122) g49 g50 (mx_dd dd_X12_keepsHandle_1 35 (122, .iastore, 1) rfl) ?_
          have P := P _ rfl
          exact mx_return (pc := 123) (mx_dd dd_X12_keepsHandle_1 36 (123, .return_, 1) rfl) rfl P
      · have P := P.2 c86
        refine mx_iconst (pc := 89) (v := (0 : Int32)) (mx_dd dd_X12_keepsHandle_1 14 (89, .iconst 0, 1) rfl) (by decide) ?_
        refine mx_goto (pc := 90) 99 (mx_dd dd_X12_keepsHandle_1 15 (90, .goto 9, 3) rfl) rfl ?_
        obtain ⟨g51, P⟩ := P
        obtain ⟨g52, P⟩ := P
        refine mx_iast (pc := 99) g51 g52 (mx_dd dd_X12_keepsHandle_1 20 (99, .iastore, 1) rfl) ?_
        have P := P _ rfl
        refine mx_aload_n (pc := 100) 0 (mx_dd dd_X12_keepsHandle_1 21 (100, .aload_n 0, 1) rfl) rfl rfl ?_
        obtain ⟨b14, g53, P⟩ := P
        refine mx_getR (pc := 101) mx_fl_X12_340 g1 rfl g53 (mx_dd dd_X12_keepsHandle_1 22 (101, .getfield 340, 3) rfl) ?_
        refine mx_iload_n (pc := 104) 1 (mx_dd dd_X12_keepsHandle_1 23 (104, .iload_n 1, 1) rfl) rfl rfl ?_
        refine mx_iconst (pc := 105) (v := (3 : Int32)) (mx_dd dd_X12_keepsHandle_1 24 (105, .iconst 3, 1) rfl) (by decide) ?_
        refine mx_iadd (pc := 106) (mx_dd dd_X12_keepsHandle_1 25 (106, .iadd, 1) rfl) ?_
        refine mx_iload_n (pc := 107) 2 (mx_dd dd_X12_keepsHandle_1 26 (107, .iload_n 3, 1) rfl) rfl rfl ?_
        refine mx_iconst (pc := 108) (v := (-1 : Int32)) (mx_dd dd_X12_keepsHandle_1 27 (108, .iconst (-1), 1) rfl) (by decide) ?_
        refine mx_icmp_ne (pc := 109) 116 (mx_dd dd_X12_keepsHandle_1 28 (109, .if_icmp .ne 7, 3) rfl) rfl (fun c109 => ?_) (fun c109 => ?_)
        · have P := P.1 c109
          refine mx_aload_n (pc := 116) 0 (mx_dd dd_X12_keepsHandle_1 31 (116, .aload_n 0, 1) rfl) rfl rfl ?_
          obtain ⟨b15, g54, P⟩ := P
          refine mx_getR (pc := 117) mx_fl_X12_392 g1 rfl g54 (mx_dd dd_X12_keepsHandle_1 32 (117, .getfield 392, 3) rfl) ?_
          refine mx_iload_n (pc := 120) 2 (mx_dd dd_X12_keepsHandle_1 33 (120, .iload_n 3, 1) rfl) rfl rfl ?_
          obtain ⟨g55, P⟩ := P
          obtain ⟨g56, P⟩ := P
          refine mx_iald (pc := 121) g55 g56 (mx_dd dd_X12_keepsHandle_1 34 (121, .iaload, 1) rfl) ?_
          obtain ⟨g57, P⟩ := P
          obtain ⟨g58, P⟩ := P
          refine mx_iast (pc := 122) g57 g58 (mx_dd dd_X12_keepsHandle_1 35 (122, .iastore, 1) rfl) ?_
          have P := P _ rfl
          exact mx_return (pc := 123) (mx_dd dd_X12_keepsHandle_1 36 (123, .return_, 1) rfl) rfl P
        · have P := P.2 c109
          refine mx_iconst (pc := 112) (v := (0 : Int32)) (mx_dd dd_X12_keepsHandle_1 29 (112, .iconst 0, 1) rfl) (by decide) ?_
          refine mx_goto (pc := 113) 122 (mx_dd dd_X12_keepsHandle_1 30 (113, .goto 9, 3) rfl) rfl ?_
          obtain ⟨g59, P⟩ := P
          obtain ⟨g60, P⟩ := P
          refine mx_iast (pc := 122) g59 g60 (mx_dd dd_X12_keepsHandle_1 35 (122, .iastore, 1) rfl) ?_
          have P := P _ rfl
          exact mx_return (pc := 123) (mx_dd dd_X12_keepsHandle_1 36 (123, .return_, 1) rfl) rfl P
  · have P := P.2 c17
    refine mx_iload_n (pc := 20) 2 (mx_dd dd_X12_keepsHandle_0 13 (20, .iload_n 3, 1) rfl) rfl rfl ?_
    refine mx_iconst (pc := 21) (v := (-1 : Int32)) (mx_dd dd_X12_keepsHandle_0 14 (21, .iconst (-1), 1) rfl) (by decide) ?_
    refine mx_icmp_eq (pc := 22) 40 (mx_dd dd_X12_keepsHandle_0 15 (22, .if_icmp .eq 18, 3) rfl) rfl (fun c22 => ?_) (fun c22 => ?_)
    · have P := P.1 c22
      exact P
    · have P := P.2 c22
      refine mx_aload_n (pc := 25) 0 (mx_dd dd_X12_keepsHandle_0 16 (25, .aload_n 0, 1) rfl) rfl rfl ?_
      refine mx_iconst (pc := 26) (v := (0 : Int32)) (mx_dd dd_X12_keepsHandle_0 17 (26, .iconst 0, 1) rfl) (by decide) ?_
      refine mx_iload (pc := 27) 4 (mx_dd dd_X12_keepsHandle_0 18 (27, .iload 5, 2) rfl) rfl ?_
      obtain ⟨g61, P⟩ := P
      obtain ⟨g62, P⟩ := P
      refine mx_cVI (pc := 29) (Y := mY_X12_handle) (As := [.int _, .int _]) mx_ml_X12_371 mx_y_X12_handle rfl g62 (by decide) rfl (by decide) rfl (mx_dd dd_X12_keepsHandle_0 19 (29, .invokevirtual 371, 3) rfl) g61 (by decide) P (fun v1 h16 P => ?_)
      refine mx_iload_n (pc := 32) 2 (mx_dd dd_X12_keepsHandle_0 20 (32, .iload_n 3, 1) rfl) rfl rfl ?_
      refine mx_icmp_ne (pc := 33) 40 (mx_dd dd_X12_keepsHandle_0 21 (33, .if_icmp .ne 7, 3) rfl) rfl (fun c33 => ?_) (fun c33 => ?_)
      · have P := P.1 c33
        exact P
      · have P := P.2 c33
        refine mx_iload (pc := 36) 4 (mx_dd dd_X12_keepsHandle_0 22 (36, .iload 5, 2) rfl) rfl ?_
        refine mx_istore (pc := 38) (mx_dd dd_X12_keepsHandle_0 23 (38, .istore 4, 2) rfl) (by decide) (lv' := [(4, _), (0, _), (1, _), (3, _), (5, _)]) rfl ?_
        refine mx_sel [1, 2, 3, 0, 4] rfl ?_
        exact P
theorem b_X12_keepsHandle_40 {d : Nat} {h : mxH} {Q : mxRes → mxH → Prop} (x0 : Nat) (x1 : Int32) (x3 : Int32) (x4 : Int32) (x5 : Int32)
    (P : mx_SX mY_X12_keepsHandle d 15 [(0, .ref x0), (1, .int x1), (3, .int x3), (4, .int x4), (5, .int (x5 + (-1 : Int32)))] [] h Q) : mx_SX mY_X12_keepsHandle d 40 [(0, .ref x0), (1, .int x1), (3, .int x3), (4, .int x4), (5, .int x5)] [] h Q := by
  refine mx_iinc (pc := 40) 4 (mx_dd dd_X12_keepsHandle_0 24 (40, .iinc 5 (-1), 3) rfl) rfl (mx_kadd (by decide : Int32.ofInt (-1) = (-1 : Int32))) (by decide) (lv' := [(5, _), (0, _), (1, _), (3, _), (4, _)]) rfl ?_
  refine mx_goto (pc := 43) 15 (mx_dd dd_X12_keepsHandle_0 25 (43, .goto (-28), 3) rfl) rfl ?_
  refine mx_sel [1, 2, 3, 4, 0] rfl ?_
  exact P
theorem b_X12_undo {d : Nat} {h : mxH} {Q : mxRes → mxH → Prop} (x0 : Nat)
    (P : hpK h x0 = 12 ∧ ∀ h1 : mxH, h1 = hsI h x0 0 (0 : Int32) → ((¬ (hpI h1 x0 82) = 0 → ∀ h2 : mxH, h2 = hsI h1 x0 82 ((hpI h1 x0 82) - (1 : Int32)) → mx_SX mY_X12_undo d 35 [(0, .ref x0), (1, .int ((778 : Int32) * (hpI h2 x0 82))), (2, .int (0 : Int32))] [] h2 Q) ∧ ((hpI h1 x0 82) = 0 → Q (.inl (some (.int (-1 : Int32)))) h1))) : mx_SM mY_X12_undo d [.ref x0] h Q := by
  refine mx_SM_of (by decide) (Nat.le_of_ble_eq_true rfl) ?_
  show mx_SX mY_X12_undo d 0 [(0, .ref x0)] [] h Q
  refine mx_aload_n (pc := 0) 0 (mx_dd dd_X12_undo_0 0 (0, .aload_n 0, 1) rfl) rfl rfl ?_
  refine mx_iconst (pc := 1) (v := (0 : Int32)) (mx_dd dd_X12_undo_0 1 (1, .iconst 0, 1) rfl) (by decide) ?_
  obtain ⟨g1, P⟩ := P
  refine mx_putI (pc := 2) mx_fl_X12_3 g1 rfl (.inl rfl) rfl rfl (mx_dd dd_X12_undo_0 2 (2, .putfield 3, 3) rfl) ?_
  have P := P _ rfl
  refine mx_aload_n (pc := 5) 0 (mx_dd dd_X12_undo_0 3 (5, .aload_n 0, 1) rfl) rfl rfl ?_
  refine mx_getI (pc := 6) mx_fl_X12_337 g1 rfl (mx_dd dd_X12_undo_0 4 (6, .getfield 337, 3) rfl) ?_
  refine mx_if_ne (pc := 9) 14 (mx_dd dd_X12_undo_0 5 (9, .ifCond .ne 5, 3) rfl) rfl (fun c9 => ?_) (fun c9 => ?_)
  · have P := P.1 c9
    refine mx_aload_n (pc := 14) 0 (mx_dd dd_X12_undo_0 8 (14, .aload_n 0, 1) rfl) rfl rfl ?_
    refine mx_dup (pc := 15) (mx_dd dd_X12_undo_0 9 (15, .dup, 1) rfl) rfl ?_
    refine mx_getI (pc := 16) mx_fl_X12_337 g1 rfl (mx_dd dd_X12_undo_0 10 (16, .getfield 337, 3) rfl) ?_
    refine mx_iconst (pc := 19) (v := (1 : Int32)) (mx_dd dd_X12_undo_0 11 (19, .iconst 1, 1) rfl) (by decide) ?_
    refine mx_isub (pc := 20) (mx_dd dd_X12_undo_0 12 (20, .isub, 1) rfl) ?_
    refine mx_putI (pc := 21) mx_fl_X12_337 g1 rfl (.inl rfl) rfl rfl (mx_dd dd_X12_undo_0 13 (21, .putfield 337, 3) rfl) ?_
    have P := P _ rfl
    refine mx_sipush (pc := 24) (v := (778 : Int32)) (mx_dd dd_X12_undo_0 14 (24, .sipush 778, 3) rfl) (by decide) ?_
    refine mx_aload_n (pc := 27) 0 (mx_dd dd_X12_undo_0 15 (27, .aload_n 0, 1) rfl) rfl rfl ?_
    refine mx_getI (pc := 28) mx_fl_X12_337 g1 rfl (mx_dd dd_X12_undo_0 16 (28, .getfield 337, 3) rfl) ?_
    refine mx_imul (pc := 31) (mx_dd dd_X12_undo_0 17 (31, .imul, 1) rfl) ?_
    refine mx_istore_n (pc := 32) (mx_dd dd_X12_undo_0 18 (32, .istore_n 1, 1) rfl) rfl (by decide) (lv' := [(1, _), (0, _)]) rfl ?_
    refine mx_iconst (pc := 33) (v := (0 : Int32)) (mx_dd dd_X12_undo_0 19 (33, .iconst 0, 1) rfl) (by decide) ?_
    refine mx_istore_n (pc := 34) (mx_dd dd_X12_undo_0 20 (34, .istore_n 2, 1) rfl) rfl (by decide) (lv' := [(2, _), (1, _), (0, _)]) rfl ?_
    refine mx_sel [2, 1, 0] rfl ?_
    exact P
  · have P := P.2 c9
    refine mx_iconst (pc := 12) (v := (-1 : Int32)) (mx_dd dd_X12_undo_0 6 (12, .iconst (-1), 1) rfl) (by decide) ?_
    exact mx_ireturn (pc := 13) (mx_dd dd_X12_undo_0 7 (13, .ireturn, 1) rfl) rfl rfl P
theorem b_X12_undo_35 {d : Nat} {h : mxH} {Q : mxRes → mxH → Prop} (x0 : Nat) (x1 : Int32) (x2 : Int32)
    (P : (((471 : Int32) ≤ x2 → mx_SX mY_X12_undo d 64 [(0, .ref x0), (1, .int x1), (2, .int (0 : Int32))] [] h Q) ∧ (¬ (471 : Int32) ≤ x2 → hpK h x0 = 12 ∧ ∃ b1 : Nat, hpR h x0 56 = some b1 ∧ ∃ b2 : Nat, hpR h x0 80 = some b2 ∧ hpK h b2 = 14 ∧ vp_in (x1 + x2) (hpZ h b2) ∧ hpK h b1 = 14 ∧ vp_in x2 (hpZ h b1) ∧ ∀ h1 : mxH, h1 = hsI h b1 x2.toNatClampNeg (hpI h b2 (x1 + x2).toNatClampNeg) → mx_SX mY_X12_undo d 35 [(0, .ref x0), (1, .int x1), (2, .int (x2 + (1 : Int32)))] [] h1 Q))) : mx_SX mY_X12_undo d 35 [(0, .ref x0), (1, .int x1), (2, .int x2)] [] h Q := by
  refine mx_iload_n (pc := 35) 2 (mx_dd dd_X12_undo_0 21 (35, .iload_n 2, 1) rfl) rfl rfl ?_
  refine mx_sipush (pc := 36) (v := (471 : Int32)) (mx_dd dd_X12_undo_0 22 (36, .sipush 471, 3) rfl) (by decide) ?_
  refine mx_icmp_ge (pc := 39) 62 (mx_dd dd_X12_undo_0 23 (39, .if_icmp .ge 23, 3) rfl) rfl (fun c39 => ?_) (fun c39 => ?_)
  · have P := P.1 c39
    refine mx_iconst (pc := 62) (v := (0 : Int32)) (mx_dd dd_X12_undo_0 36 (62, .iconst 0, 1) rfl) (by decide) ?_
    refine mx_istore_n (pc := 63) (mx_dd dd_X12_undo_0 37 (63, .istore_n 2, 1) rfl) rfl (by decide) (lv' := [(2, _), (0, _), (1, _)]) rfl ?_
    refine mx_sel [1, 2, 0] rfl ?_
    exact P
  · have P := P.2 c39
    refine mx_aload_n (pc := 42) 0 (mx_dd dd_X12_undo_0 24 (42, .aload_n 0, 1) rfl) rfl rfl ?_
    obtain ⟨g1, P⟩ := P
    obtain ⟨b1, g2, P⟩ := P
    refine mx_getR (pc := 43) mx_fl_X12_312 g1 rfl g2 (mx_dd dd_X12_undo_0 25 (43, .getfield 312, 3) rfl) ?_
    refine mx_iload_n (pc := 46) 2 (mx_dd dd_X12_undo_0 26 (46, .iload_n 2, 1) rfl) rfl rfl ?_
    refine mx_aload_n (pc := 47) 0 (mx_dd dd_X12_undo_0 27 (47, .aload_n 0, 1) rfl) rfl rfl ?_
    obtain ⟨b2, g3, P⟩ := P
    refine mx_getR (pc := 48) mx_fl_X12_340 g1 rfl g3 (mx_dd dd_X12_undo_0 28 (48, .getfield 340, 3) rfl) ?_
    refine mx_iload_n (pc := 51) 1 (mx_dd dd_X12_undo_0 29 (51, .iload_n 1, 1) rfl) rfl rfl ?_
    refine mx_iload_n (pc := 52) 2 (mx_dd dd_X12_undo_0 30 (52, .iload_n 2, 1) rfl) rfl rfl ?_
    refine mx_iadd (pc := 53) (mx_dd dd_X12_undo_0 31 (53, .iadd, 1) rfl) ?_
    obtain ⟨g4, P⟩ := P
    obtain ⟨g5, P⟩ := P
    refine mx_iald (pc := 54) g4 g5 (mx_dd dd_X12_undo_0 32 (54, .iaload, 1) rfl) ?_
    obtain ⟨g6, P⟩ := P
    obtain ⟨g7, P⟩ := P
    refine mx_iast (pc := 55) g6 g7 (mx_dd dd_X12_undo_0 33 (55, .iastore, 1) rfl) ?_
    have P := P _ rfl
    refine mx_iinc (pc := 56) 2 (mx_dd dd_X12_undo_0 34 (56, .iinc 2 1, 3) rfl) rfl (mx_kadd (by decide : Int32.ofInt 1 = (1 : Int32))) (by decide) (lv' := [(2, _), (0, _), (1, _)]) rfl ?_
    refine mx_goto (pc := 59) 35 (mx_dd dd_X12_undo_0 35 (59, .goto (-24), 3) rfl) rfl ?_
    refine mx_sel [1, 2, 0] rfl ?_
    exact P
theorem b_X12_undo_64 {d : Nat} {h : mxH} {Q : mxRes → mxH → Prop} (x0 : Nat) (x1 : Int32) (x2 : Int32)
    (P : (((83 : Int32) ≤ x2 → mx_SX mY_X12_undo d 96 [(0, .ref x0), (1, .int x1), (2, .int (0 : Int32))] [] h Q) ∧ (¬ (83 : Int32) ≤ x2 → hpK h x0 = 12 ∧ ∃ b1 : Nat, hpR h x0 71 = some b1 ∧ ∃ b2 : Nat, hpR h x0 80 = some b2 ∧ hpK h b2 = 14 ∧ vp_in ((x1 + (471 : Int32)) + x2) (hpZ h b2) ∧ hpK h b1 = 14 ∧ vp_in x2 (hpZ h b1) ∧ ∀ h1 : mxH, h1 = hsI h b1 x2.toNatClampNeg (hpI h b2 ((x1 + (471 : Int32)) + x2).toNatClampNeg) → mx_SX mY_X12_undo d 64 [(0, .ref x0), (1, .int x1), (2, .int (x2 + (1 : Int32)))] [] h1 Q))) : mx_SX mY_X12_undo d 64 [(0, .ref x0), (1, .int x1), (2, .int x2)] [] h Q := by
  refine mx_iload_n (pc := 64) 2 (mx_dd dd_X12_undo_0 38 (64, .iload_n 2, 1) rfl) rfl rfl ?_
  refine mx_bipush (pc := 65) (v := (83 : Int32)) (mx_dd dd_X12_undo_0 39 (65, .bipush 83, 2) rfl) (by decide) ?_
  refine mx_icmp_ge (pc := 67) 94 (mx_dd dd_X12_undo_1 0 (67, .if_icmp .ge 27, 3) rfl) rfl (fun c67 => ?_) (fun c67 => ?_)
  · have P := P.1 c67
    refine mx_iconst (pc := 94) (v := (0 : Int32)) (mx_dd dd_X12_undo_1 15 (94, .iconst 0, 1) rfl) (by decide) ?_
    refine mx_istore_n (pc := 95) (mx_dd dd_X12_undo_1 16 (95, .istore_n 2, 1) rfl) rfl (by decide) (lv' := [(2, _), (0, _), (1, _)]) rfl ?_
    refine mx_sel [1, 2, 0] rfl ?_
    exact P
  · have P := P.2 c67
    refine mx_aload_n (pc := 70) 0 (mx_dd dd_X12_undo_1 1 (70, .aload_n 0, 1) rfl) rfl rfl ?_
    obtain ⟨g1, P⟩ := P
    obtain ⟨b1, g2, P⟩ := P
    refine mx_getR (pc := 71) mx_fl_X12_319 g1 rfl g2 (mx_dd dd_X12_undo_1 2 (71, .getfield 319, 3) rfl) ?_
    refine mx_iload_n (pc := 74) 2 (mx_dd dd_X12_undo_1 3 (74, .iload_n 2, 1) rfl) rfl rfl ?_
    refine mx_aload_n (pc := 75) 0 (mx_dd dd_X12_undo_1 4 (75, .aload_n 0, 1) rfl) rfl rfl ?_
    obtain ⟨b2, g3, P⟩ := P
    refine mx_getR (pc := 76) mx_fl_X12_340 g1 rfl g3 (mx_dd dd_X12_undo_1 5 (76, .getfield 340, 3) rfl) ?_
    refine mx_iload_n (pc := 79) 1 (mx_dd dd_X12_undo_1 6 (79, .iload_n 1, 1) rfl) rfl rfl ?_
    refine mx_sipush (pc := 80) (v := (471 : Int32)) (mx_dd dd_X12_undo_1 7 (80, .sipush 471, 3) rfl) (by decide) ?_
    refine mx_iadd (pc := 83) (mx_dd dd_X12_undo_1 8 (83, .iadd, 1) rfl) ?_
    refine mx_iload_n (pc := 84) 2 (mx_dd dd_X12_undo_1 9 (84, .iload_n 2, 1) rfl) rfl rfl ?_
    refine mx_iadd (pc := 85) (mx_dd dd_X12_undo_1 10 (85, .iadd, 1) rfl) ?_
    obtain ⟨g4, P⟩ := P
    obtain ⟨g5, P⟩ := P
    refine mx_iald (pc := 86) g4 g5 (mx_dd dd_X12_undo_1 11 (86, .iaload, 1) rfl) ?_
    obtain ⟨g6, P⟩ := P
    obtain ⟨g7, P⟩ := P
    refine mx_iast (pc := 87) g6 g7 (mx_dd dd_X12_undo_1 12 (87, .iastore, 1) rfl) ?_
    have P := P _ rfl
    refine mx_iinc (pc := 88) 2 (mx_dd dd_X12_undo_1 13 (88, .iinc 2 1, 3) rfl) rfl (mx_kadd (by decide : Int32.ofInt 1 = (1 : Int32))) (by decide) (lv' := [(2, _), (0, _), (1, _)]) rfl ?_
    refine mx_goto (pc := 91) 64 (mx_dd dd_X12_undo_1 14 (91, .goto (-27), 3) rfl) rfl ?_
    refine mx_sel [1, 2, 0] rfl ?_
    exact P
theorem b_X12_undo_96 {d : Nat} {h : mxH} {Q : mxRes → mxH → Prop} (x0 : Nat) (x1 : Int32) (x2 : Int32)
    (P : (((184 : Int32) ≤ x2 → mx_SX mY_X12_undo d 132 [(0, .ref x0), (1, .int x1), (2, .int (0 : Int32))] [] h Q) ∧ (¬ (184 : Int32) ≤ x2 → hpK h x0 = 12 ∧ ∃ b1 : Nat, hpR h x0 73 = some b1 ∧ ∃ b2 : Nat, hpR h x0 80 = some b2 ∧ hpK h b2 = 14 ∧ vp_in (((x1 + (471 : Int32)) + (83 : Int32)) + x2) (hpZ h b2) ∧ hpK h b1 = 14 ∧ vp_in x2 (hpZ h b1) ∧ ∀ h1 : mxH, h1 = hsI h b1 x2.toNatClampNeg (hpI h b2 (((x1 + (471 : Int32)) + (83 : Int32)) + x2).toNatClampNeg) → mx_SX mY_X12_undo d 96 [(0, .ref x0), (1, .int x1), (2, .int (x2 + (1 : Int32)))] [] h1 Q))) : mx_SX mY_X12_undo d 96 [(0, .ref x0), (1, .int x1), (2, .int x2)] [] h Q := by
  refine mx_iload_n (pc := 96) 2 (mx_dd dd_X12_undo_1 17 (96, .iload_n 2, 1) rfl) rfl rfl ?_
  refine mx_sipush (pc := 97) (v := (184 : Int32)) (mx_dd dd_X12_undo_1 18 (97, .sipush 184, 3) rfl) (by decide) ?_
  refine mx_icmp_ge (pc := 100) 130 (mx_dd dd_X12_undo_1 19 (100, .if_icmp .ge 30, 3) rfl) rfl (fun c100 => ?_) (fun c100 => ?_)
  · have P := P.1 c100
    refine mx_iconst (pc := 130) (v := (0 : Int32)) (mx_dd dd_X12_undo_1 36 (130, .iconst 0, 1) rfl) (by decide) ?_
    refine mx_istore_n (pc := 131) (mx_dd dd_X12_undo_1 37 (131, .istore_n 2, 1) rfl) rfl (by decide) (lv' := [(2, _), (0, _), (1, _)]) rfl ?_
    refine mx_sel [1, 2, 0] rfl ?_
    exact P
  · have P := P.2 c100
    refine mx_aload_n (pc := 103) 0 (mx_dd dd_X12_undo_1 20 (103, .aload_n 0, 1) rfl) rfl rfl ?_
    obtain ⟨g1, P⟩ := P
    obtain ⟨b1, g2, P⟩ := P
    refine mx_getR (pc := 104) mx_fl_X12_413 g1 rfl g2 (mx_dd dd_X12_undo_1 21 (104, .getfield 413, 3) rfl) ?_
    refine mx_iload_n (pc := 107) 2 (mx_dd dd_X12_undo_1 22 (107, .iload_n 2, 1) rfl) rfl rfl ?_
    refine mx_aload_n (pc := 108) 0 (mx_dd dd_X12_undo_1 23 (108, .aload_n 0, 1) rfl) rfl rfl ?_
    obtain ⟨b2, g3, P⟩ := P
    refine mx_getR (pc := 109) mx_fl_X12_340 g1 rfl g3 (mx_dd dd_X12_undo_1 24 (109, .getfield 340, 3) rfl) ?_
    refine mx_iload_n (pc := 112) 1 (mx_dd dd_X12_undo_1 25 (112, .iload_n 1, 1) rfl) rfl rfl ?_
    refine mx_sipush (pc := 113) (v := (471 : Int32)) (mx_dd dd_X12_undo_1 26 (113, .sipush 471, 3) rfl) (by decide) ?_
    refine mx_iadd (pc := 116) (mx_dd dd_X12_undo_1 27 (116, .iadd, 1) rfl) ?_
    refine mx_bipush (pc := 117) (v := (83 : Int32)) (mx_dd dd_X12_undo_1 28 (117, .bipush 83, 2) rfl) (by decide) ?_
    refine mx_iadd (pc := 119) (mx_dd dd_X12_undo_1 29 (119, .iadd, 1) rfl) ?_
    refine mx_iload_n (pc := 120) 2 (mx_dd dd_X12_undo_1 30 (120, .iload_n 2, 1) rfl) rfl rfl ?_
    refine mx_iadd (pc := 121) (mx_dd dd_X12_undo_1 31 (121, .iadd, 1) rfl) ?_
    obtain ⟨g4, P⟩ := P
    obtain ⟨g5, P⟩ := P
    refine mx_iald (pc := 122) g4 g5 (mx_dd dd_X12_undo_1 32 (122, .iaload, 1) rfl) ?_
    obtain ⟨g6, P⟩ := P
    obtain ⟨g7, P⟩ := P
    refine mx_iast (pc := 123) g6 g7 (mx_dd dd_X12_undo_1 33 (123, .iastore, 1) rfl) ?_
    have P := P _ rfl
    refine mx_iinc (pc := 124) 2 (mx_dd dd_X12_undo_1 34 (124, .iinc 2 1, 3) rfl) rfl (mx_kadd (by decide : Int32.ofInt 1 = (1 : Int32))) (by decide) (lv' := [(2, _), (0, _), (1, _)]) rfl ?_
    refine mx_goto (pc := 127) 96 (mx_dd dd_X12_undo_1 35 (127, .goto (-31), 3) rfl) rfl ?_
    refine mx_sel [1, 2, 0] rfl ?_
    exact P
theorem b_X12_undo_132 {d : Nat} {h : mxH} {Q : mxRes → mxH → Prop} (x0 : Nat) (x1 : Int32) (x2 : Int32)
    (P : (((8 : Int32) ≤ x2 → mx_SX mY_X12_undo d 166 [(0, .ref x0), (1, .int x1), (2, .int (0 : Int32))] [] h Q) ∧ (¬ (8 : Int32) ≤ x2 → hpK h x0 = 12 ∧ ∃ b1 : Nat, hpR h x0 57 = some b1 ∧ ∃ b2 : Nat, hpR h x0 81 = some b2 ∧ hpK h b2 = 15 ∧ vp_in (((42 : Int32) * (hpI h x0 82)) + x2) (hpZ h b2) ∧ hpK h b1 = 15 ∧ vp_in x2 (hpZ h b1) ∧ ∀ h1 : mxH, h1 = hsL h b1 x2.toNatClampNeg (hpL h b2 (((42 : Int32) * (hpI h x0 82)) + x2).toNatClampNeg) → mx_SX mY_X12_undo d 132 [(0, .ref x0), (1, .int x1), (2, .int (x2 + (1 : Int32)))] [] h1 Q))) : mx_SX mY_X12_undo d 132 [(0, .ref x0), (1, .int x1), (2, .int x2)] [] h Q := by
  refine mx_iload_n (pc := 132) 2 (mx_dd dd_X12_undo_1 38 (132, .iload_n 2, 1) rfl) rfl rfl ?_
  refine mx_bipush (pc := 133) (v := (8 : Int32)) (mx_dd dd_X12_undo_1 39 (133, .bipush 8, 2) rfl) (by decide) ?_
  refine mx_icmp_ge (pc := 135) 164 (mx_dd dd_X12_undo_2 0 (135, .if_icmp .ge 29, 3) rfl) rfl (fun c135 => ?_) (fun c135 => ?_)
  · have P := P.1 c135
    refine mx_iconst (pc := 164) (v := (0 : Int32)) (mx_dd dd_X12_undo_2 16 (164, .iconst 0, 1) rfl) (by decide) ?_
    refine mx_istore_n (pc := 165) (mx_dd dd_X12_undo_2 17 (165, .istore_n 2, 1) rfl) rfl (by decide) (lv' := [(2, _), (0, _), (1, _)]) rfl ?_
    refine mx_sel [1, 2, 0] rfl ?_
    exact P
  · have P := P.2 c135
    refine mx_aload_n (pc := 138) 0 (mx_dd dd_X12_undo_2 1 (138, .aload_n 0, 1) rfl) rfl rfl ?_
    obtain ⟨g1, P⟩ := P
    obtain ⟨b1, g2, P⟩ := P
    refine mx_getR (pc := 139) mx_fl_X12_361 g1 rfl g2 (mx_dd dd_X12_undo_2 2 (139, .getfield 361, 3) rfl) ?_
    refine mx_iload_n (pc := 142) 2 (mx_dd dd_X12_undo_2 3 (142, .iload_n 2, 1) rfl) rfl rfl ?_
    refine mx_aload_n (pc := 143) 0 (mx_dd dd_X12_undo_2 4 (143, .aload_n 0, 1) rfl) rfl rfl ?_
    obtain ⟨b2, g3, P⟩ := P
    refine mx_getR (pc := 144) mx_fl_X12_688 g1 rfl g3 (mx_dd dd_X12_undo_2 5 (144, .getfield 688, 3) rfl) ?_
    refine mx_bipush (pc := 147) (v := (42 : Int32)) (mx_dd dd_X12_undo_2 6 (147, .bipush 42, 2) rfl) (by decide) ?_
    refine mx_aload_n (pc := 149) 0 (mx_dd dd_X12_undo_2 7 (149, .aload_n 0, 1) rfl) rfl rfl ?_
    refine mx_getI (pc := 150) mx_fl_X12_337 g1 rfl (mx_dd dd_X12_undo_2 8 (150, .getfield 337, 3) rfl) ?_
    refine mx_imul (pc := 153) (mx_dd dd_X12_undo_2 9 (153, .imul, 1) rfl) ?_
    refine mx_iload_n (pc := 154) 2 (mx_dd dd_X12_undo_2 10 (154, .iload_n 2, 1) rfl) rfl rfl ?_
    refine mx_iadd (pc := 155) (mx_dd dd_X12_undo_2 11 (155, .iadd, 1) rfl) ?_
    obtain ⟨g4, P⟩ := P
    obtain ⟨g5, P⟩ := P
    refine mx_lald (pc := 156) g4 g5 (mx_dd dd_X12_undo_2 12 (156, .laload, 1) rfl) ?_
    obtain ⟨g6, P⟩ := P
    obtain ⟨g7, P⟩ := P
    refine mx_last (pc := 157) g6 g7 (mx_dd dd_X12_undo_2 13 (157, .lastore, 1) rfl) ?_
    have P := P _ rfl
    refine mx_iinc (pc := 158) 2 (mx_dd dd_X12_undo_2 14 (158, .iinc 2 1, 3) rfl) rfl (mx_kadd (by decide : Int32.ofInt 1 = (1 : Int32))) (by decide) (lv' := [(2, _), (0, _), (1, _)]) rfl ?_
    refine mx_goto (pc := 161) 132 (mx_dd dd_X12_undo_2 15 (161, .goto (-29), 3) rfl) rfl ?_
    refine mx_sel [1, 2, 0] rfl ?_
    exact P
theorem b_X12_undo_166 {d : Nat} {h : mxH} {Q : mxRes → mxH → Prop} (x0 : Nat) (x1 : Int32) (x2 : Int32)
    (P : (((34 : Int32) ≤ x2 → mx_SX mY_X12_undo d 203 [(0, .ref x0), (1, .int x1), (2, .int (0 : Int32))] [] h Q) ∧ (¬ (34 : Int32) ≤ x2 → hpK h x0 = 12 ∧ ∃ b1 : Nat, hpR h x0 72 = some b1 ∧ ∃ b2 : Nat, hpR h x0 81 = some b2 ∧ hpK h b2 = 15 ∧ vp_in ((((42 : Int32) * (hpI h x0 82)) + (8 : Int32)) + x2) (hpZ h b2) ∧ hpK h b1 = 15 ∧ vp_in x2 (hpZ h b1) ∧ ∀ h1 : mxH, h1 = hsL h b1 x2.toNatClampNeg (hpL h b2 ((((42 : Int32) * (hpI h x0 82)) + (8 : Int32)) + x2).toNatClampNeg) → mx_SX mY_X12_undo d 166 [(0, .ref x0), (1, .int x1), (2, .int (x2 + (1 : Int32)))] [] h1 Q))) : mx_SX mY_X12_undo d 166 [(0, .ref x0), (1, .int x1), (2, .int x2)] [] h Q := by
  refine mx_iload_n (pc := 166) 2 (mx_dd dd_X12_undo_2 18 (166, .iload_n 2, 1) rfl) rfl rfl ?_
  refine mx_bipush (pc := 167) (v := (34 : Int32)) (mx_dd dd_X12_undo_2 19 (167, .bipush 34, 2) rfl) (by decide) ?_
  refine mx_icmp_ge (pc := 169) 201 (mx_dd dd_X12_undo_2 20 (169, .if_icmp .ge 32, 3) rfl) rfl (fun c169 => ?_) (fun c169 => ?_)
  · have P := P.1 c169
    refine mx_iconst (pc := 201) (v := (0 : Int32)) (mx_dd dd_X12_undo_2 38 (201, .iconst 0, 1) rfl) (by decide) ?_
    refine mx_istore_n (pc := 202) (mx_dd dd_X12_undo_2 39 (202, .istore_n 2, 1) rfl) rfl (by decide) (lv' := [(2, _), (0, _), (1, _)]) rfl ?_
    refine mx_sel [1, 2, 0] rfl ?_
    exact P
  · have P := P.2 c169
    refine mx_aload_n (pc := 172) 0 (mx_dd dd_X12_undo_2 21 (172, .aload_n 0, 1) rfl) rfl rfl ?_
    obtain ⟨g1, P⟩ := P
    obtain ⟨b1, g2, P⟩ := P
    refine mx_getR (pc := 173) mx_fl_X12_407 g1 rfl g2 (mx_dd dd_X12_undo_2 22 (173, .getfield 407, 3) rfl) ?_
    refine mx_iload_n (pc := 176) 2 (mx_dd dd_X12_undo_2 23 (176, .iload_n 2, 1) rfl) rfl rfl ?_
    refine mx_aload_n (pc := 177) 0 (mx_dd dd_X12_undo_2 24 (177, .aload_n 0, 1) rfl) rfl rfl ?_
    obtain ⟨b2, g3, P⟩ := P
    refine mx_getR (pc := 178) mx_fl_X12_688 g1 rfl g3 (mx_dd dd_X12_undo_2 25 (178, .getfield 688, 3) rfl) ?_
    refine mx_bipush (pc := 181) (v := (42 : Int32)) (mx_dd dd_X12_undo_2 26 (181, .bipush 42, 2) rfl) (by decide) ?_
    refine mx_aload_n (pc := 183) 0 (mx_dd dd_X12_undo_2 27 (183, .aload_n 0, 1) rfl) rfl rfl ?_
    refine mx_getI (pc := 184) mx_fl_X12_337 g1 rfl (mx_dd dd_X12_undo_2 28 (184, .getfield 337, 3) rfl) ?_
    refine mx_imul (pc := 187) (mx_dd dd_X12_undo_2 29 (187, .imul, 1) rfl) ?_
    refine mx_bipush (pc := 188) (v := (8 : Int32)) (mx_dd dd_X12_undo_2 30 (188, .bipush 8, 2) rfl) (by decide) ?_
    refine mx_iadd (pc := 190) (mx_dd dd_X12_undo_2 31 (190, .iadd, 1) rfl) ?_
    refine mx_iload_n (pc := 191) 2 (mx_dd dd_X12_undo_2 32 (191, .iload_n 2, 1) rfl) rfl rfl ?_
    refine mx_iadd (pc := 192) (mx_dd dd_X12_undo_2 33 (192, .iadd, 1) rfl) ?_
    obtain ⟨g4, P⟩ := P
    obtain ⟨g5, P⟩ := P
    refine mx_lald (pc := 193) g4 g5 (mx_dd dd_X12_undo_2 34 (193, .laload, 1) rfl) ?_
    obtain ⟨g6, P⟩ := P
    obtain ⟨g7, P⟩ := P
    refine mx_last (pc := 194) g6 g7 (mx_dd dd_X12_undo_2 35 (194, .lastore, 1) rfl) ?_
    have P := P _ rfl
    refine mx_iinc (pc := 195) 2 (mx_dd dd_X12_undo_2 36 (195, .iinc 2 1, 3) rfl) rfl (mx_kadd (by decide : Int32.ofInt 1 = (1 : Int32))) (by decide) (lv' := [(2, _), (0, _), (1, _)]) rfl ?_
    refine mx_goto (pc := 198) 166 (mx_dd dd_X12_undo_2 37 (198, .goto (-32), 3) rfl) rfl ?_
    refine mx_sel [1, 2, 0] rfl ?_
    exact P
theorem b_X12_undo_203 {d : Nat} {h : mxH} {Q : mxRes → mxH → Prop} (x0 : Nat) (x1 : Int32) (x2 : Int32)
    (P : (((4000 : Int32) ≤ x2 → mx_SX mY_X12_undo d 225 [(0, .ref x0), (1, .int x1), (2, .int (0 : Int32))] [] h Q) ∧ (¬ (4000 : Int32) ≤ x2 → hpK h x0 = 12 ∧ ∃ b1 : Nat, hpR h x0 58 = some b1 ∧ hpK h b1 = 14 ∧ vp_in x2 (hpZ h b1) ∧ ∀ h1 : mxH, h1 = hsI h b1 x2.toNatClampNeg (0 : Int32) → mx_SX mY_X12_undo d 203 [(0, .ref x0), (1, .int x1), (2, .int (x2 + (1 : Int32)))] [] h1 Q))) : mx_SX mY_X12_undo d 203 [(0, .ref x0), (1, .int x1), (2, .int x2)] [] h Q := by
  refine mx_iload_n (pc := 203) 2 (mx_dd dd_X12_undo_3 0 (203, .iload_n 2, 1) rfl) rfl rfl ?_
  refine mx_sipush (pc := 204) (v := (4000 : Int32)) (mx_dd dd_X12_undo_3 1 (204, .sipush 4000, 3) rfl) (by decide) ?_
  refine mx_icmp_ge (pc := 207) 223 (mx_dd dd_X12_undo_3 2 (207, .if_icmp .ge 16, 3) rfl) rfl (fun c207 => ?_) (fun c207 => ?_)
  · have P := P.1 c207
    refine mx_iconst (pc := 223) (v := (0 : Int32)) (mx_dd dd_X12_undo_3 10 (223, .iconst 0, 1) rfl) (by decide) ?_
    refine mx_istore_n (pc := 224) (mx_dd dd_X12_undo_3 11 (224, .istore_n 2, 1) rfl) rfl (by decide) (lv' := [(2, _), (0, _), (1, _)]) rfl ?_
    refine mx_sel [1, 2, 0] rfl ?_
    exact P
  · have P := P.2 c207
    refine mx_aload_n (pc := 210) 0 (mx_dd dd_X12_undo_3 3 (210, .aload_n 0, 1) rfl) rfl rfl ?_
    obtain ⟨g1, P⟩ := P
    obtain ⟨b1, g2, P⟩ := P
    refine mx_getR (pc := 211) mx_fl_X12_380 g1 rfl g2 (mx_dd dd_X12_undo_3 4 (211, .getfield 380, 3) rfl) ?_
    refine mx_iload_n (pc := 214) 2 (mx_dd dd_X12_undo_3 5 (214, .iload_n 2, 1) rfl) rfl rfl ?_
    refine mx_iconst (pc := 215) (v := (0 : Int32)) (mx_dd dd_X12_undo_3 6 (215, .iconst 0, 1) rfl) (by decide) ?_
    obtain ⟨g3, P⟩ := P
    obtain ⟨g4, P⟩ := P
    refine mx_iast (pc := 216) g3 g4 (mx_dd dd_X12_undo_3 7 (216, .iastore, 1) rfl) ?_
    have P := P _ rfl
    refine mx_iinc (pc := 217) 2 (mx_dd dd_X12_undo_3 8 (217, .iinc 2 1, 3) rfl) rfl (mx_kadd (by decide : Int32.ofInt 1 = (1 : Int32))) (by decide) (lv' := [(2, _), (0, _), (1, _)]) rfl ?_
    refine mx_goto (pc := 220) 203 (mx_dd dd_X12_undo_3 9 (220, .goto (-17), 3) rfl) rfl ?_
    refine mx_sel [1, 2, 0] rfl ?_
    exact P
theorem b_X12_undo_225 {d : Nat} {h : mxH} {Q : mxRes → mxH → Prop} (x0 : Nat) (x1 : Int32) (x2 : Int32)
    (P : (((10 : Int32) ≤ x2 → hpK h x0 = 12 ∧ Q (.inl (some (.int (hpI h x0 82)))) h) ∧ (¬ (10 : Int32) ≤ x2 → 1 ≤ d ∧ hpK h x0 = 12 ∧ mx_SM mY_X12_bringsHandle (d - 1) [.ref x0, .int ((x1 + (738 : Int32)) + ((4 : Int32) * x2)), .int x2] h (mx_KV (fun h1 => mx_SX mY_X12_undo d 225 [(0, .ref x0), (1, .int x1), (2, .int (x2 + (1 : Int32)))] [] h1 Q) (mx_XX mY_X12_undo Q))))) : mx_SX mY_X12_undo d 225 [(0, .ref x0), (1, .int x1), (2, .int x2)] [] h Q := by
  refine mx_iload_n (pc := 225) 2 (mx_dd dd_X12_undo_3 12 (225, .iload_n 2, 1) rfl) rfl rfl ?_
  refine mx_bipush (pc := 226) (v := (10 : Int32)) (mx_dd dd_X12_undo_3 13 (226, .bipush 10, 2) rfl) (by decide) ?_
  refine mx_icmp_ge (pc := 228) 251 (mx_dd dd_X12_undo_3 14 (228, .if_icmp .ge 23, 3) rfl) rfl (fun c228 => ?_) (fun c228 => ?_)
  · have P := P.1 c228
    refine mx_aload_n (pc := 251) 0 (mx_dd dd_X12_undo_3 27 (251, .aload_n 0, 1) rfl) rfl rfl ?_
    obtain ⟨g1, P⟩ := P
    refine mx_getI (pc := 252) mx_fl_X12_337 g1 rfl (mx_dd dd_X12_undo_3 28 (252, .getfield 337, 3) rfl) ?_
    exact mx_ireturn (pc := 255) (mx_dd dd_X12_undo_3 29 (255, .ireturn, 1) rfl) rfl rfl P
  · have P := P.2 c228
    refine mx_aload_n (pc := 231) 0 (mx_dd dd_X12_undo_3 15 (231, .aload_n 0, 1) rfl) rfl rfl ?_
    refine mx_iload_n (pc := 232) 1 (mx_dd dd_X12_undo_3 16 (232, .iload_n 1, 1) rfl) rfl rfl ?_
    refine mx_sipush (pc := 233) (v := (738 : Int32)) (mx_dd dd_X12_undo_3 17 (233, .sipush 738, 3) rfl) (by decide) ?_
    refine mx_iadd (pc := 236) (mx_dd dd_X12_undo_3 18 (236, .iadd, 1) rfl) ?_
    refine mx_iconst (pc := 237) (v := (4 : Int32)) (mx_dd dd_X12_undo_3 19 (237, .iconst 4, 1) rfl) (by decide) ?_
    refine mx_iload_n (pc := 238) 2 (mx_dd dd_X12_undo_3 20 (238, .iload_n 2, 1) rfl) rfl rfl ?_
    refine mx_imul (pc := 239) (mx_dd dd_X12_undo_3 21 (239, .imul, 1) rfl) ?_
    refine mx_iadd (pc := 240) (mx_dd dd_X12_undo_3 22 (240, .iadd, 1) rfl) ?_
    refine mx_iload_n (pc := 241) 2 (mx_dd dd_X12_undo_3 23 (241, .iload_n 2, 1) rfl) rfl rfl ?_
    obtain ⟨g2, P⟩ := P
    obtain ⟨g3, P⟩ := P
    refine mx_cVV (pc := 242) (Y := mY_X12_bringsHandle) (As := [.int _, .int _]) mx_ml_X12_697 mx_y_X12_bringsHandle rfl g3 (by decide) rfl (by decide) rfl (mx_dd dd_X12_undo_3 24 (242, .invokevirtual 697, 3) rfl) g2 (by decide) P (fun h1 P => ?_)
    refine mx_iinc (pc := 245) 2 (mx_dd dd_X12_undo_3 25 (245, .iinc 2 1, 3) rfl) rfl (mx_kadd (by decide : Int32.ofInt 1 = (1 : Int32))) (by decide) (lv' := [(2, _), (0, _), (1, _)]) rfl ?_
    refine mx_goto (pc := 248) 225 (mx_dd dd_X12_undo_3 26 (248, .goto (-23), 3) rfl) rfl ?_
    refine mx_sel [1, 2, 0] rfl ?_
    exact P
theorem b_X12_bringsHandle {d : Nat} {h : mxH} {Q : mxRes → mxH → Prop} (x0 : Nat) (x1 : Int32) (x2 : Int32)
    (P : hpK h x0 = 12 ∧ ∃ b1 : Nat, hpR h x0 80 = some b1 ∧ hpK h b1 = 14 ∧ vp_in (x1 + (1 : Int32)) (hpZ h b1) ∧ (((hpI h b1 (x1 + (1 : Int32)).toNatClampNeg) = 0 → mx_SX mY_X12_bringsHandle d 35 [(0, .ref x0), (1, .int x1), (2, .int x2), (3, .int (-1 : Int32))] [] h Q) ∧ (¬ (hpI h b1 (x1 + (1 : Int32)).toNatClampNeg) = 0 → vp_in x1 (hpZ h b1) ∧ ((x2 ≤ (hpI h b1 x1.toNatClampNeg) → mx_SX mY_X12_bringsHandle d 35 [(0, .ref x0), (1, .int x1), (2, .int x2), (3, .int (-1 : Int32))] [] h Q) ∧ (¬ x2 ≤ (hpI h b1 x1.toNatClampNeg) → 1 ≤ d ∧ mx_SM mY_X12_handle (d - 1) [.ref x0, .int (0 : Int32), .int (hpI h b1 x1.toNatClampNeg)] h (mx_KI (fun v1 h1 => mx_SX mY_X12_bringsHandle d 35 [(0, .ref x0), (1, .int x1), (2, .int x2), (3, .int v1)] [] h1 Q) (mx_XX mY_X12_bringsHandle Q))))))) : mx_SM mY_X12_bringsHandle d [.ref x0, .int x1, .int x2] h Q := by
  refine mx_SM_of (by decide) (Nat.le_of_ble_eq_true rfl) ?_
  show mx_SX mY_X12_bringsHandle d 0 [(0, .ref x0), (1, .int x1), (2, .int x2)] [] h Q
  refine mx_iconst (pc := 0) (v := (-1 : Int32)) (mx_dd dd_X12_bringsHandle_0 0 (0, .iconst (-1), 1) rfl) (by decide) ?_
  refine mx_istore_n (pc := 1) (mx_dd dd_X12_bringsHandle_0 1 (1, .istore_n 3, 1) rfl) rfl (by decide) (lv' := [(3, _), (0, _), (1, _), (2, _)]) rfl ?_
  refine mx_aload_n (pc := 2) 1 (mx_dd dd_X12_bringsHandle_0 2 (2, .aload_n 0, 1) rfl) rfl rfl ?_
  obtain ⟨g1, P⟩ := P
  obtain ⟨b1, g2, P⟩ := P
  refine mx_getR (pc := 3) mx_fl_X12_340 g1 rfl g2 (mx_dd dd_X12_bringsHandle_0 3 (3, .getfield 340, 3) rfl) ?_
  refine mx_iload_n (pc := 6) 2 (mx_dd dd_X12_bringsHandle_0 4 (6, .iload_n 1, 1) rfl) rfl rfl ?_
  refine mx_iconst (pc := 7) (v := (1 : Int32)) (mx_dd dd_X12_bringsHandle_0 5 (7, .iconst 1, 1) rfl) (by decide) ?_
  refine mx_iadd (pc := 8) (mx_dd dd_X12_bringsHandle_0 6 (8, .iadd, 1) rfl) ?_
  obtain ⟨g3, P⟩ := P
  obtain ⟨g4, P⟩ := P
  refine mx_iald (pc := 9) g3 g4 (mx_dd dd_X12_bringsHandle_0 7 (9, .iaload, 1) rfl) ?_
  refine mx_if_eq (pc := 10) 35 (mx_dd dd_X12_bringsHandle_0 8 (10, .ifCond .eq 25, 3) rfl) rfl (fun c10 => ?_) (fun c10 => ?_)
  · have P := P.1 c10
    refine mx_sel [1, 2, 3, 0] rfl ?_
    exact P
  · have P := P.2 c10
    refine mx_aload_n (pc := 13) 1 (mx_dd dd_X12_bringsHandle_0 9 (13, .aload_n 0, 1) rfl) rfl rfl ?_
    refine mx_getR (pc := 14) mx_fl_X12_340 g1 rfl g2 (mx_dd dd_X12_bringsHandle_0 10 (14, .getfield 340, 3) rfl) ?_
    refine mx_iload_n (pc := 17) 2 (mx_dd dd_X12_bringsHandle_0 11 (17, .iload_n 1, 1) rfl) rfl rfl ?_
    obtain ⟨g5, P⟩ := P
    refine mx_iald (pc := 18) g3 g5 (mx_dd dd_X12_bringsHandle_0 12 (18, .iaload, 1) rfl) ?_
    refine mx_iload_n (pc := 19) 3 (mx_dd dd_X12_bringsHandle_0 13 (19, .iload_n 2, 1) rfl) rfl rfl ?_
    refine mx_icmp_ge (pc := 20) 35 (mx_dd dd_X12_bringsHandle_0 14 (20, .if_icmp .ge 15, 3) rfl) rfl (fun c20 => ?_) (fun c20 => ?_)
    · have P := P.1 c20
      refine mx_sel [1, 2, 3, 0] rfl ?_
      exact P
    · have P := P.2 c20
      refine mx_aload_n (pc := 23) 1 (mx_dd dd_X12_bringsHandle_0 15 (23, .aload_n 0, 1) rfl) rfl rfl ?_
      refine mx_iconst (pc := 24) (v := (0 : Int32)) (mx_dd dd_X12_bringsHandle_0 16 (24, .iconst 0, 1) rfl) (by decide) ?_
      refine mx_aload_n (pc := 25) 1 (mx_dd dd_X12_bringsHandle_0 17 (25, .aload_n 0, 1) rfl) rfl rfl ?_
      refine mx_getR (pc := 26) mx_fl_X12_340 g1 rfl g2 (mx_dd dd_X12_bringsHandle_0 18 (26, .getfield 340, 3) rfl) ?_
      refine mx_iload_n (pc := 29) 2 (mx_dd dd_X12_bringsHandle_0 19 (29, .iload_n 1, 1) rfl) rfl rfl ?_
      refine mx_iald (pc := 30) g3 g5 (mx_dd dd_X12_bringsHandle_0 20 (30, .iaload, 1) rfl) ?_
      obtain ⟨g6, P⟩ := P
      refine mx_cVI (pc := 31) (Y := mY_X12_handle) (As := [.int _, .int _]) mx_ml_X12_371 mx_y_X12_handle rfl g1 (by decide) rfl (by decide) rfl (mx_dd dd_X12_bringsHandle_0 21 (31, .invokevirtual 371, 3) rfl) g6 (by decide) P (fun v1 h1 P => ?_)
      refine mx_istore_n (pc := 34) (mx_dd dd_X12_bringsHandle_0 22 (34, .istore_n 3, 1) rfl) rfl (by decide) (lv' := [(3, _), (0, _), (1, _), (2, _)]) rfl ?_
      refine mx_sel [1, 2, 3, 0] rfl ?_
      exact P
theorem b_X12_bringsHandle_35 {d : Nat} {h : mxH} {Q : mxRes → mxH → Prop} (x0 : Nat) (x1 : Int32) (x2 : Int32) (x3 : Int32)
    (P : hpK h x0 = 12 ∧ ∃ b1 : Nat, hpR h x0 80 = some b1 ∧ hpK h b1 = 14 ∧ vp_in (x1 + (1 : Int32)) (hpZ h b1) ∧ (((hpI h b1 (x1 + (1 : Int32)).toNatClampNeg) = 0 → mx_SX mY_X12_bringsHandle d 91 [(0, .ref x0), (2, .int x2), (3, .int x3)] [] h Q) ∧ (¬ (hpI h b1 (x1 + (1 : Int32)).toNatClampNeg) = 0 → vp_in x1 (hpZ h b1) ∧ ((¬ (hpI h b1 x1.toNatClampNeg) = x2 → mx_SX mY_X12_bringsHandle d 91 [(0, .ref x0), (2, .int x2), (3, .int x3)] [] h Q) ∧ ((hpI h b1 x1.toNatClampNeg) = x2 → vp_in (x1 + (2 : Int32)) (hpZ h b1) ∧ 1 ≤ d ∧ mx_SM mY_X12_opened (d - 1) [.ref x0, .int (hpI h b1 (x1 + (1 : Int32)).toNatClampNeg), .int (hpI h b1 (x1 + (2 : Int32)).toNatClampNeg)] h (mx_KI (fun v1 h1 => hpK h1 x0 = 12 ∧ ∃ b2 : Nat, hpR h1 x0 60 = some b2 ∧ ∃ b3 : Nat, hpR h1 x0 80 = some b3 ∧ hpK h1 b3 = 14 ∧ vp_in (x1 + (3 : Int32)) (hpZ h1 b3) ∧ hpK h1 b2 = 14 ∧ vp_in v1 (hpZ h1 b2) ∧ ∀ h2 : mxH, h2 = hsI h1 b2 v1.toNatClampNeg (hpI h1 b3 (x1 + (3 : Int32)).toNatClampNeg) → mx_SX mY_X12_bringsHandle d 91 [(0, .ref x0), (2, .int x2), (3, .int v1)] [] h2 Q) (mx_XX mY_X12_bringsHandle Q))))))) : mx_SX mY_X12_bringsHandle d 35 [(0, .ref x0), (1, .int x1), (2, .int x2), (3, .int x3)] [] h Q := by
  refine mx_aload_n (pc := 35) 0 (mx_dd dd_X12_bringsHandle_0 23 (35, .aload_n 0, 1) rfl) rfl rfl ?_
  obtain ⟨g1, P⟩ := P
  obtain ⟨b1, g2, P⟩ := P
  refine mx_getR (pc := 36) mx_fl_X12_340 g1 rfl g2 (mx_dd dd_X12_bringsHandle_0 24 (36, .getfield 340, 3) rfl) ?_
  refine mx_iload_n (pc := 39) 1 (mx_dd dd_X12_bringsHandle_0 25 (39, .iload_n 1, 1) rfl) rfl rfl ?_
  refine mx_iconst (pc := 40) (v := (1 : Int32)) (mx_dd dd_X12_bringsHandle_0 26 (40, .iconst 1, 1) rfl) (by decide) ?_
  refine mx_iadd (pc := 41) (mx_dd dd_X12_bringsHandle_0 27 (41, .iadd, 1) rfl) ?_
  obtain ⟨g3, P⟩ := P
  obtain ⟨g4, P⟩ := P
  refine mx_iald (pc := 42) g3 g4 (mx_dd dd_X12_bringsHandle_0 28 (42, .iaload, 1) rfl) ?_
  refine mx_if_eq (pc := 43) 91 (mx_dd dd_X12_bringsHandle_0 29 (43, .ifCond .eq 48, 3) rfl) rfl (fun c43 => ?_) (fun c43 => ?_)
  · have P := P.1 c43
    refine mx_sel [0, 2, 3] rfl ?_
    exact P
  · have P := P.2 c43
    refine mx_aload_n (pc := 46) 0 (mx_dd dd_X12_bringsHandle_0 30 (46, .aload_n 0, 1) rfl) rfl rfl ?_
    refine mx_getR (pc := 47) mx_fl_X12_340 g1 rfl g2 (mx_dd dd_X12_bringsHandle_0 31 (47, .getfield 340, 3) rfl) ?_
    refine mx_iload_n (pc := 50) 1 (mx_dd dd_X12_bringsHandle_0 32 (50, .iload_n 1, 1) rfl) rfl rfl ?_
    obtain ⟨g5, P⟩ := P
    refine mx_iald (pc := 51) g3 g5 (mx_dd dd_X12_bringsHandle_0 33 (51, .iaload, 1) rfl) ?_
    refine mx_iload_n (pc := 52) 2 (mx_dd dd_X12_bringsHandle_0 34 (52, .iload_n 2, 1) rfl) rfl rfl ?_
    refine mx_icmp_ne (pc := 53) 91 (mx_dd dd_X12_bringsHandle_0 35 (53, .if_icmp .ne 38, 3) rfl) rfl (fun c53 => ?_) (fun c53 => ?_)
    · have P := P.1 c53
      refine mx_sel [0, 2, 3] rfl ?_
      exact P
    · have P := P.2 c53
      refine mx_aload_n (pc := 56) 0 (mx_dd dd_X12_bringsHandle_0 36 (56, .aload_n 0, 1) rfl) rfl rfl ?_
      refine mx_aload_n (pc := 57) 0 (mx_dd dd_X12_bringsHandle_0 37 (57, .aload_n 0, 1) rfl) rfl rfl ?_
      refine mx_getR (pc := 58) mx_fl_X12_340 g1 rfl g2 (mx_dd dd_X12_bringsHandle_0 38 (58, .getfield 340, 3) rfl) ?_
      refine mx_iload_n (pc := 61) 1 (mx_dd dd_X12_bringsHandle_0 39 (61, .iload_n 1, 1) rfl) rfl rfl ?_
      refine mx_iconst (pc := 62) (v := (1 : Int32)) (mx_dd dd_X12_bringsHandle_1 0 (62, .iconst 1, 1) rfl) (by decide) ?_
      refine mx_iadd (pc := 63) (mx_dd dd_X12_bringsHandle_1 1 (63, .iadd, 1) rfl) ?_
      refine mx_iald (pc := 64) g3 g4 (mx_dd dd_X12_bringsHandle_1 2 (64, .iaload, 1) rfl) ?_
      refine mx_aload_n (pc := 65) 0 (mx_dd dd_X12_bringsHandle_1 3 (65, .aload_n 0, 1) rfl) rfl rfl ?_
      refine mx_getR (pc := 66) mx_fl_X12_340 g1 rfl g2 (mx_dd dd_X12_bringsHandle_1 4 (66, .getfield 340, 3) rfl) ?_
      refine mx_iload_n (pc := 69) 1 (mx_dd dd_X12_bringsHandle_1 5 (69, .iload_n 1, 1) rfl) rfl rfl ?_
      refine mx_iconst (pc := 70) (v := (2 : Int32)) (mx_dd dd_X12_bringsHandle_1 6 (70, .iconst 2, 1) rfl) (by decide) ?_
      refine mx_iadd (pc := 71) (mx_dd dd_X12_bringsHandle_1 7 (71, .iadd, 1) rfl) ?_
      obtain ⟨g6, P⟩ := P
      refine mx_iald (pc := 72) g3 g6 (mx_dd dd_X12_bringsHandle_1 8 (72, .iaload, 1) rfl) ?_
      obtain ⟨g7, P⟩ := P
      refine mx_cVI (pc := 73) (Y := mY_X12_opened) (As := [.int _, .int _]) mx_ml_X12_410 mx_y_X12_opened rfl g1 (by decide) rfl (by decide) rfl (mx_dd dd_X12_bringsHandle_1 9 (73, .invokevirtual 410, 3) rfl) g7 (by decide) P (fun v1 h1 P => ?_)
      refine mx_istore_n (pc := 76) (mx_dd dd_X12_bringsHandle_1 10 (76, .istore_n 3, 1) rfl) rfl (by decide) (lv' := [(3, _), (0, _), (1, _), (2, _)]) rfl ?_
      refine mx_aload_n (pc := 77) 1 (mx_dd dd_X12_bringsHandle_1 11 (77, .aload_n 0, 1) rfl) rfl rfl ?_
      obtain ⟨g8, P⟩ := P
      obtain ⟨b2, g9, P⟩ := P
      refine mx_getR (pc := 78) mx_fl_X12_392 g8 rfl g9 (mx_dd dd_X12_bringsHandle_1 12 (78, .getfield 392, 3) rfl) ?_
      refine mx_iload_n (pc := 81) 0 (mx_dd dd_X12_bringsHandle_1 13 (81, .iload_n 3, 1) rfl) rfl rfl ?_
      refine mx_aload_n (pc := 82) 1 (mx_dd dd_X12_bringsHandle_1 14 (82, .aload_n 0, 1) rfl) rfl rfl ?_
      obtain ⟨b3, g10, P⟩ := P
      refine mx_getR (pc := 83) mx_fl_X12_340 g8 rfl g10 (mx_dd dd_X12_bringsHandle_1 15 (83, .getfield 340, 3) rfl) ?_
      refine mx_iload_n (pc := 86) 2 (mx_dd dd_X12_bringsHandle_1 16 (86, .iload_n 1, 1) rfl) rfl rfl ?_
      refine mx_iconst (pc := 87) (v := (3 : Int32)) (mx_dd dd_X12_bringsHandle_1 17 (87, .iconst 3, 1) rfl) (by decide) ?_
      refine mx_iadd (pc := 88) (mx_dd dd_X12_bringsHandle_1 18 (88, .iadd, 1) rfl) ?_
      obtain ⟨g11, P⟩ := P
      obtain ⟨g12, P⟩ := P
      refine mx_iald (pc := 89) g11 g12 (mx_dd dd_X12_bringsHandle_1 19 (89, .iaload, 1) rfl) ?_
      obtain ⟨g13, P⟩ := P
      obtain ⟨g14, P⟩ := P
      refine mx_iast (pc := 90) g13 g14 (mx_dd dd_X12_bringsHandle_1 20 (90, .iastore, 1) rfl) ?_
      have P := P _ rfl
      refine mx_sel [1, 3, 0] rfl ?_
      exact P
theorem b_X12_bringsHandle_91 {d : Nat} {h : mxH} {Q : mxRes → mxH → Prop} (x0 : Nat) (x2 : Int32) (x3 : Int32)
    (P : 1 ≤ d ∧ hpK h x0 = 12 ∧ mx_SM mY_X12_sets (d - 1) [.ref x0, .int (0 : Int32), .int ((36 : Int32) + x2), .int x3] h (mx_KV (fun h1 => Q (.inl none) h1) (mx_XX mY_X12_bringsHandle Q))) : mx_SX mY_X12_bringsHandle d 91 [(0, .ref x0), (2, .int x2), (3, .int x3)] [] h Q := by
  refine mx_aload_n (pc := 91) 0 (mx_dd dd_X12_bringsHandle_1 21 (91, .aload_n 0, 1) rfl) rfl rfl ?_
  refine mx_iconst (pc := 92) (v := (0 : Int32)) (mx_dd dd_X12_bringsHandle_1 22 (92, .iconst 0, 1) rfl) (by decide) ?_
  refine mx_bipush (pc := 93) (v := (36 : Int32)) (mx_dd dd_X12_bringsHandle_1 23 (93, .bipush 36, 2) rfl) (by decide) ?_
  refine mx_iload_n (pc := 95) 1 (mx_dd dd_X12_bringsHandle_1 24 (95, .iload_n 2, 1) rfl) rfl rfl ?_
  refine mx_iadd (pc := 96) (mx_dd dd_X12_bringsHandle_1 25 (96, .iadd, 1) rfl) ?_
  refine mx_iload_n (pc := 97) 2 (mx_dd dd_X12_bringsHandle_1 26 (97, .iload_n 3, 1) rfl) rfl rfl ?_
  obtain ⟨g1, P⟩ := P
  obtain ⟨g2, P⟩ := P
  refine mx_cVV (pc := 98) (Y := mY_X12_sets) (As := [.int _, .int _, .int _]) mx_ml_X12_419 mx_y_X12_sets rfl g2 (by decide) rfl (by decide) rfl (mx_dd dd_X12_bringsHandle_1 27 (98, .invokevirtual 419, 3) rfl) g1 (by decide) P (fun h1 P => ?_)
  exact mx_return (pc := 101) (mx_dd dd_X12_bringsHandle_1 28 (101, .return_, 1) rfl) rfl P
theorem b_X12_undoDepth {d : Nat} {h : mxH} {Q : mxRes → mxH → Prop} (x0 : Nat)
    (P : hpK h x0 = 12 ∧ ∀ h1 : mxH, h1 = hsI h x0 0 (0 : Int32) → Q (.inl (some (.int (hpI h1 x0 82)))) h1) : mx_SM mY_X12_undoDepth d [.ref x0] h Q := by
  refine mx_SM_of (by decide) (Nat.le_of_ble_eq_true rfl) ?_
  show mx_SX mY_X12_undoDepth d 0 [(0, .ref x0)] [] h Q
  refine mx_aload_n (pc := 0) 0 (mx_dd dd_X12_undoDepth 0 (0, .aload_n 0, 1) rfl) rfl rfl ?_
  refine mx_iconst (pc := 1) (v := (0 : Int32)) (mx_dd dd_X12_undoDepth 1 (1, .iconst 0, 1) rfl) (by decide) ?_
  obtain ⟨g1, P⟩ := P
  refine mx_putI (pc := 2) mx_fl_X12_3 g1 rfl (.inl rfl) rfl rfl (mx_dd dd_X12_undoDepth 2 (2, .putfield 3, 3) rfl) ?_
  have P := P _ rfl
  refine mx_aload_n (pc := 5) 0 (mx_dd dd_X12_undoDepth 3 (5, .aload_n 0, 1) rfl) rfl rfl ?_
  refine mx_getI (pc := 6) mx_fl_X12_337 g1 rfl (mx_dd dd_X12_undoDepth 4 (6, .getfield 337, 3) rfl) ?_
  exact mx_ireturn (pc := 9) (mx_dd dd_X12_undoDepth 5 (9, .ireturn, 1) rfl) rfl rfl P
theorem b_X12_type {d : Nat} {h : mxH} {Q : mxRes → mxH → Prop} (x0 : Nat)
    (P : hpK h x0 = 12 ∧ ∀ h1 : mxH, h1 = hsI h x0 0 (0 : Int32) → ∀ h2 : mxH, h2 = hsI h1 x0 3 (0 : Int32) → mx_SX mY_X12_type d 19 [(0, .ref x0), (1, .int (hpI h1 x0 3)), (2, .int (0 : Int32)), (3, .int (0 : Int32))] [] h2 Q) : mx_SM mY_X12_type d [.ref x0] h Q := by
  refine mx_SM_of (by decide) (Nat.le_of_ble_eq_true rfl) ?_
  show mx_SX mY_X12_type d 0 [(0, .ref x0)] [] h Q
  refine mx_aload_n (pc := 0) 0 (mx_dd dd_X12_type_0 0 (0, .aload_n 0, 1) rfl) rfl rfl ?_
  refine mx_iconst (pc := 1) (v := (0 : Int32)) (mx_dd dd_X12_type_0 1 (1, .iconst 0, 1) rfl) (by decide) ?_
  obtain ⟨g1, P⟩ := P
  refine mx_putI (pc := 2) mx_fl_X12_3 g1 rfl (.inl rfl) rfl rfl (mx_dd dd_X12_type_0 2 (2, .putfield 3, 3) rfl) ?_
  have P := P _ rfl
  refine mx_aload_n (pc := 5) 0 (mx_dd dd_X12_type_0 3 (5, .aload_n 0, 1) rfl) rfl rfl ?_
  refine mx_getI (pc := 6) mx_fl_X12_7 g1 rfl (mx_dd dd_X12_type_0 4 (6, .getfield 7, 3) rfl) ?_
  refine mx_istore_n (pc := 9) (mx_dd dd_X12_type_0 5 (9, .istore_n 1, 1) rfl) rfl (by decide) (lv' := [(1, _), (0, _)]) rfl ?_
  refine mx_aload_n (pc := 10) 1 (mx_dd dd_X12_type_0 6 (10, .aload_n 0, 1) rfl) rfl rfl ?_
  refine mx_iconst (pc := 11) (v := (0 : Int32)) (mx_dd dd_X12_type_0 7 (11, .iconst 0, 1) rfl) (by decide) ?_
  refine mx_putI (pc := 12) mx_fl_X12_7 g1 rfl (.inl rfl) rfl rfl (mx_dd dd_X12_type_0 8 (12, .putfield 7, 3) rfl) ?_
  have P := P _ rfl
  refine mx_iconst (pc := 15) (v := (0 : Int32)) (mx_dd dd_X12_type_0 9 (15, .iconst 0, 1) rfl) (by decide) ?_
  refine mx_istore_n (pc := 16) (mx_dd dd_X12_type_0 10 (16, .istore_n 2, 1) rfl) rfl (by decide) (lv' := [(2, _), (1, _), (0, _)]) rfl ?_
  refine mx_iconst (pc := 17) (v := (0 : Int32)) (mx_dd dd_X12_type_0 11 (17, .iconst 0, 1) rfl) (by decide) ?_
  refine mx_istore_n (pc := 18) (mx_dd dd_X12_type_0 12 (18, .istore_n 3, 1) rfl) rfl (by decide) (lv' := [(3, _), (2, _), (1, _), (0, _)]) rfl ?_
  refine mx_sel [3, 2, 1, 0] rfl ?_
  exact P
theorem b_X12_type_19 {d : Nat} {h : mxH} {Q : mxRes → mxH → Prop} (x0 : Nat) (x1 : Int32) (x2 : Int32) (x3 : Int32)
    (P : ((x1 ≤ x3 → hpK h x0 = 12 ∧ ∃ b1 : Nat, hpR h x0 56 = some b1 ∧ hpK h b1 = 14 ∧ vp_in (329 : Int32) (hpZ h b1) ∧ ((((hpI h b1 (329 : Int32).toNatClampNeg) + x2) ≤ (40 : Int32) → 1 ≤ d ∧ mx_SM mY_X12_throwsIf (d - 1) [.ref x0, .int (0 : Int32), .int (1 : Int32)] h (mx_KI (fun v1 h1 => ((v1 = 0 → hpK h1 x0 = 12 ∧ mx_SM mY_X12_keeps (d - 1) [.ref x0] h1 (mx_KV (fun h2 => mx_SX mY_X12_type d 95 [(0, .ref x0), (1, .int x1), (3, .int (0 : Int32)), (4, .int (0 : Int32))] [] h2 Q) (mx_XX mY_X12_type Q))) ∧ (¬ v1 = 0 → Q (.inl (some (.int (0 : Int32)))) h1))) (mx_XX mY_X12_type Q))) ∧ (¬ ((hpI h b1 (329 : Int32).toNatClampNeg) + x2) ≤ (40 : Int32) → 1 ≤ d ∧ mx_SM mY_X12_throwsIf (d - 1) [.ref x0, .int (1 : Int32), .int (1 : Int32)] h (mx_KI (fun v2 h3 => ((v2 = 0 → hpK h3 x0 = 12 ∧ mx_SM mY_X12_keeps (d - 1) [.ref x0] h3 (mx_KV (fun h4 => mx_SX mY_X12_type d 95 [(0, .ref x0), (1, .int x1), (3, .int (0 : Int32)), (4, .int (0 : Int32))] [] h4 Q) (mx_XX mY_X12_type Q))) ∧ (¬ v2 = 0 → Q (.inl (some (.int (0 : Int32)))) h3))) (mx_XX mY_X12_type Q))))) ∧ (¬ x1 ≤ x3 → hpK h x0 = 12 ∧ ∃ b2 : Nat, hpR h x0 1 = some b2 ∧ hpK h b2 = 13 ∧ vp_in x3 (hpZ h b2) ∧ (((hpI h b2 x3.toNatClampNeg) = (10 : Int32) → mx_SX mY_X12_type d 19 [(0, .ref x0), (1, .int x1), (2, .int (x2 + (1 : Int32))), (3, .int (x3 + (1 : Int32)))] [] h Q) ∧ (¬ (hpI h b2 x3.toNatClampNeg) = (10 : Int32) → ((¬ x3 = (x1 - (1 : Int32)) → mx_SX mY_X12_type d 19 [(0, .ref x0), (1, .int x1), (2, .int (x2 + (0 : Int32))), (3, .int (x3 + (1 : Int32)))] [] h Q) ∧ (x3 = (x1 - (1 : Int32)) → mx_SX mY_X12_type d 19 [(0, .ref x0), (1, .int x1), (2, .int (x2 + (1 : Int32))), (3, .int (x3 + (1 : Int32)))] [] h Q))))))) : mx_SX mY_X12_type d 19 [(0, .ref x0), (1, .int x1), (2, .int x2), (3, .int x3)] [] h Q := by
  refine mx_iload_n (pc := 19) 3 (mx_dd dd_X12_type_0 13 (19, .iload_n 3, 1) rfl) rfl rfl ?_
  refine mx_iload_n (pc := 20) 1 (mx_dd dd_X12_type_0 14 (20, .iload_n 1, 1) rfl) rfl rfl ?_
  refine mx_icmp_ge (pc := 21) 56 (mx_dd dd_X12_type_0 15 (21, .if_icmp .ge 35, 3) rfl) rfl (fun c21 => ?_) (fun c21 => ?_)
  · have P := P.1 c21
    refine mx_aload_n (pc := 56) 0 (mx_dd dd_X12_type_0 35 (56, .aload_n 0, 1) rfl) rfl rfl ?_
    refine mx_aload_n (pc := 57) 0 (mx_dd dd_X12_type_0 36 (57, .aload_n 0, 1) rfl) rfl rfl ?_
    obtain ⟨g1, P⟩ := P
    obtain ⟨b1, g2, P⟩ := P
    refine mx_getR (pc := 58) mx_fl_X12_312 g1 rfl g2 (mx_dd dd_X12_type_0 37 (58, .getfield 312, 3) rfl) ?_
    refine mx_sipush (pc := 61) (v := (329 : Int32)) (mx_dd dd_X12_type_0 38 (61, .sipush 329, 3) rfl) (by decide) ?_
    obtain ⟨g3, P⟩ := P
    obtain ⟨g4, P⟩ := P
    refine mx_iald (pc := 64) g3 g4 (mx_dd dd_X12_type_0 39 (64, .iaload, 1) rfl) ?_
    refine mx_iload_n (pc := 65) 2 (mx_dd dd_X12_type_1 0 (65, .iload_n 2, 1) rfl) rfl rfl ?_
    refine mx_iadd (pc := 66) (mx_dd dd_X12_type_1 1 (66, .iadd, 1) rfl) ?_
    refine mx_bipush (pc := 67) (v := (40 : Int32)) (mx_dd dd_X12_type_1 2 (67, .bipush 40, 2) rfl) (by decide) ?_
    refine mx_icmp_le (pc := 69) 76 (mx_dd dd_X12_type_1 3 (69, .if_icmp .le 7, 3) rfl) rfl (fun c69 => ?_) (fun c69 => ?_)
    · have P := P.1 c69
      refine mx_iconst (pc := 76) (v := (0 : Int32)) (mx_dd dd_X12_type_1 6 (76, .iconst 0, 1) rfl) (by decide) ?_
      refine mx_iconst (pc := 77) (v := (1 : Int32)) (mx_dd dd_X12_type_1 7 (77, .iconst 1, 1) rfl) (by decide) ?_
      obtain ⟨g5, P⟩ := P
      refine mx_cVI (pc := 78) (Y := mY_X12_throwsIf) (As := [.int _, .int _]) mx_ml_X12_274 mx_y_X12_throwsIf rfl g1 (by decide) rfl (by decide) rfl (mx_dd dd_X12_type_1 8 (78, .invokevirtual 274, 3) rfl) g5 (by decide) P (fun v1 h1 P => ?_)
      refine mx_if_eq (pc := 81) 86 (mx_dd dd_X12_type_1 9 (81, .ifCond .eq 5, 3) rfl) rfl (fun c81 => ?_) (fun c81 => ?_)
      · have P := P.1 c81
        refine mx_aload_n (pc := 86) 0 (mx_dd dd_X12_type_1 12 (86, .aload_n 0, 1) rfl) rfl rfl ?_
        obtain ⟨g6, P⟩ := P
        refine mx_cVV (pc := 87) (Y := mY_X12_keeps) (As := []) mx_ml_X12_700 mx_y_X12_keeps rfl g6 (by decide) rfl (by decide) rfl (mx_dd dd_X12_type_1 13 (87, .invokevirtual 700, 3) rfl) g5 (by decide) P (fun h2 P => ?_)
        refine mx_iconst (pc := 90) (v := (0 : Int32)) (mx_dd dd_X12_type_1 14 (90, .iconst 0, 1) rfl) (by decide) ?_
        refine mx_istore_n (pc := 91) (mx_dd dd_X12_type_1 15 (91, .istore_n 3, 1) rfl) rfl (by decide) (lv' := [(3, _), (0, _), (1, _), (2, _)]) rfl ?_
        refine mx_iconst (pc := 92) (v := (0 : Int32)) (mx_dd dd_X12_type_1 16 (92, .iconst 0, 1) rfl) (by decide) ?_
        refine mx_istore (pc := 93) (mx_dd dd_X12_type_1 17 (93, .istore 4, 2) rfl) (by decide) (lv' := [(4, _), (3, _), (0, _), (1, _), (2, _)]) rfl ?_
        refine mx_sel [2, 3, 1, 0] rfl ?_
        exact P
      · have P := P.2 c81
        refine mx_iconst (pc := 84) (v := (0 : Int32)) (mx_dd dd_X12_type_1 10 (84, .iconst 0, 1) rfl) (by decide) ?_
        exact mx_ireturn (pc := 85) (mx_dd dd_X12_type_1 11 (85, .ireturn, 1) rfl) rfl rfl P
    · have P := P.2 c69
      refine mx_iconst (pc := 72) (v := (1 : Int32)) (mx_dd dd_X12_type_1 4 (72, .iconst 1, 1) rfl) (by decide) ?_
      refine mx_goto (pc := 73) 77 (mx_dd dd_X12_type_1 5 (73, .goto 4, 3) rfl) rfl ?_
      refine mx_iconst (pc := 77) (v := (1 : Int32)) (mx_dd dd_X12_type_1 7 (77, .iconst 1, 1) rfl) (by decide) ?_
      obtain ⟨g7, P⟩ := P
      refine mx_cVI (pc := 78) (Y := mY_X12_throwsIf) (As := [.int _, .int _]) mx_ml_X12_274 mx_y_X12_throwsIf rfl g1 (by decide) rfl (by decide) rfl (mx_dd dd_X12_type_1 8 (78, .invokevirtual 274, 3) rfl) g7 (by decide) P (fun v2 h3 P => ?_)
      refine mx_if_eq (pc := 81) 86 (mx_dd dd_X12_type_1 9 (81, .ifCond .eq 5, 3) rfl) rfl (fun c81 => ?_) (fun c81 => ?_)
      · have P := P.1 c81
        refine mx_aload_n (pc := 86) 0 (mx_dd dd_X12_type_1 12 (86, .aload_n 0, 1) rfl) rfl rfl ?_
        obtain ⟨g8, P⟩ := P
        refine mx_cVV (pc := 87) (Y := mY_X12_keeps) (As := []) mx_ml_X12_700 mx_y_X12_keeps rfl g8 (by decide) rfl (by decide) rfl (mx_dd dd_X12_type_1 13 (87, .invokevirtual 700, 3) rfl) g7 (by decide) P (fun h4 P => ?_)
        refine mx_iconst (pc := 90) (v := (0 : Int32)) (mx_dd dd_X12_type_1 14 (90, .iconst 0, 1) rfl) (by decide) ?_
        refine mx_istore_n (pc := 91) (mx_dd dd_X12_type_1 15 (91, .istore_n 3, 1) rfl) rfl (by decide) (lv' := [(3, _), (0, _), (1, _), (2, _)]) rfl ?_
        refine mx_iconst (pc := 92) (v := (0 : Int32)) (mx_dd dd_X12_type_1 16 (92, .iconst 0, 1) rfl) (by decide) ?_
        refine mx_istore (pc := 93) (mx_dd dd_X12_type_1 17 (93, .istore 4, 2) rfl) (by decide) (lv' := [(4, _), (3, _), (0, _), (1, _), (2, _)]) rfl ?_
        refine mx_sel [2, 3, 1, 0] rfl ?_
        exact P
      · have P := P.2 c81
        refine mx_iconst (pc := 84) (v := (0 : Int32)) (mx_dd dd_X12_type_1 10 (84, .iconst 0, 1) rfl) (by decide) ?_
        exact mx_ireturn (pc := 85) (mx_dd dd_X12_type_1 11 (85, .ireturn, 1) rfl) rfl rfl P
  · have P := P.2 c21
    refine mx_iload_n (pc := 24) 2 (mx_dd dd_X12_type_0 16 (24, .iload_n 2, 1) rfl) rfl rfl ?_
    refine mx_aload_n (pc := 25) 0 (mx_dd dd_X12_type_0 17 (25, .aload_n 0, 1) rfl) rfl rfl ?_
    obtain ⟨g9, P⟩ := P
    obtain ⟨b2, g10, P⟩ := P
    refine mx_getR (pc := 26) mx_fl_X12_14 g9 rfl g10 (mx_dd dd_X12_type_0 18 (26, .getfield 14, 3) rfl) ?_
    refine mx_iload_n (pc := 29) 3 (mx_dd dd_X12_type_0 19 (29, .iload_n 3, 1) rfl) rfl rfl ?_
    obtain ⟨g11, P⟩ := P
    obtain ⟨g12, P⟩ := P
    refine mx_bald (pc := 30) g11 g12 (mx_dd dd_X12_type_0 20 (30, .baload, 1) rfl) ?_
    refine mx_bipush (pc := 31) (v := (10 : Int32)) (mx_dd dd_X12_type_0 21 (31, .bipush 10, 2) rfl) (by decide) ?_
    refine mx_icmp_eq (pc := 33) 43 (mx_dd dd_X12_type_0 22 (33, .if_icmp .eq 10, 3) rfl) rfl (fun c33 => ?_) (fun c33 => ?_)
    · have P := P.1 c33
      refine mx_iconst (pc := 43) (v := (1 : Int32)) (mx_dd dd_X12_type_0 28 (43, .iconst 1, 1) rfl) (by decide) ?_
      refine mx_goto (pc := 44) 48 (mx_dd dd_X12_type_0 29 (44, .goto 4, 3) rfl) rfl ?_
      refine mx_iadd (pc := 48) (mx_dd dd_X12_type_0 31 (48, .iadd, 1) rfl) ?_
      refine mx_istore_n (pc := 49) (mx_dd dd_X12_type_0 32 (49, .istore_n 2, 1) rfl) rfl (by decide) (lv' := [(2, _), (0, _), (1, _), (3, _)]) rfl ?_
      refine mx_iinc (pc := 50) 3 (mx_dd dd_X12_type_0 33 (50, .iinc 3 1, 3) rfl) rfl (mx_kadd (by decide : Int32.ofInt 1 = (1 : Int32))) (by decide) (lv' := [(3, _), (2, _), (0, _), (1, _)]) rfl ?_
      refine mx_goto (pc := 53) 19 (mx_dd dd_X12_type_0 34 (53, .goto (-34), 3) rfl) rfl ?_
      refine mx_sel [2, 3, 1, 0] rfl ?_
      exact P
    · have P := P.2 c33
      refine mx_iload_n (pc := 36) 3 (mx_dd dd_X12_type_0 23 (36, .iload_n 3, 1) rfl) rfl rfl ?_
      refine mx_iload_n (pc := 37) 1 (mx_dd dd_X12_type_0 24 (37, .iload_n 1, 1) rfl) rfl rfl ?_
      refine mx_iconst (pc := 38) (v := (1 : Int32)) (mx_dd dd_X12_type_0 25 (38, .iconst 1, 1) rfl) (by decide) ?_
      refine mx_isub (pc := 39) (mx_dd dd_X12_type_0 26 (39, .isub, 1) rfl) ?_
      refine mx_icmp_ne (pc := 40) 47 (mx_dd dd_X12_type_0 27 (40, .if_icmp .ne 7, 3) rfl) rfl (fun c40 => ?_) (fun c40 => ?_)
      · have P := P.1 c40
        refine mx_iconst (pc := 47) (v := (0 : Int32)) (mx_dd dd_X12_type_0 30 (47, .iconst 0, 1) rfl) (by decide) ?_
        refine mx_iadd (pc := 48) (mx_dd dd_X12_type_0 31 (48, .iadd, 1) rfl) ?_
        refine mx_istore_n (pc := 49) (mx_dd dd_X12_type_0 32 (49, .istore_n 2, 1) rfl) rfl (by decide) (lv' := [(2, _), (0, _), (1, _), (3, _)]) rfl ?_
        refine mx_iinc (pc := 50) 3 (mx_dd dd_X12_type_0 33 (50, .iinc 3 1, 3) rfl) rfl (mx_kadd (by decide : Int32.ofInt 1 = (1 : Int32))) (by decide) (lv' := [(3, _), (2, _), (0, _), (1, _)]) rfl ?_
        refine mx_goto (pc := 53) 19 (mx_dd dd_X12_type_0 34 (53, .goto (-34), 3) rfl) rfl ?_
        refine mx_sel [2, 3, 1, 0] rfl ?_
        exact P
      · have P := P.2 c40
        refine mx_iconst (pc := 43) (v := (1 : Int32)) (mx_dd dd_X12_type_0 28 (43, .iconst 1, 1) rfl) (by decide) ?_
        refine mx_goto (pc := 44) 48 (mx_dd dd_X12_type_0 29 (44, .goto 4, 3) rfl) rfl ?_
        refine mx_iadd (pc := 48) (mx_dd dd_X12_type_0 31 (48, .iadd, 1) rfl) ?_
        refine mx_istore_n (pc := 49) (mx_dd dd_X12_type_0 32 (49, .istore_n 2, 1) rfl) rfl (by decide) (lv' := [(2, _), (0, _), (1, _), (3, _)]) rfl ?_
        refine mx_iinc (pc := 50) 3 (mx_dd dd_X12_type_0 33 (50, .iinc 3 1, 3) rfl) rfl (mx_kadd (by decide : Int32.ofInt 1 = (1 : Int32))) (by decide) (lv' := [(3, _), (2, _), (0, _), (1, _)]) rfl ?_
        refine mx_goto (pc := 53) 19 (mx_dd dd_X12_type_0 34 (53, .goto (-34), 3) rfl) rfl ?_
        refine mx_sel [2, 3, 1, 0] rfl ?_
        exact P
theorem b_X12_type_95 {d : Nat} {h : mxH} {Q : mxRes → mxH → Prop} (x0 : Nat) (x1 : Int32) (x3 : Int32) (x4 : Int32)
    (P : ((x1 ≤ x4 → hpK h x0 = 12 ∧ ∃ b1 : Nat, hpR h x0 56 = some b1 ∧ hpK h b1 = 14 ∧ vp_in (329 : Int32) (hpZ h b1) ∧ Q (.inl (some (.int (hpI h b1 (329 : Int32).toNatClampNeg)))) h) ∧ (¬ x1 ≤ x4 → hpK h x0 = 12 ∧ ∃ b2 : Nat, hpR h x0 1 = some b2 ∧ hpK h b2 = 13 ∧ vp_in x4 (hpZ h b2) ∧ ((¬ (hpI h b2 x4.toNatClampNeg) = (10 : Int32) → ((¬ (0 : Int32) = 0 → mx_SX mY_X12_type d 136 [(0, .ref x0), (1, .int x1), (3, .int x3), (4, .int x4), (5, .int (0 : Int32))] [] h Q) ∧ ((0 : Int32) = 0 → (((x1 - (1 : Int32)) ≤ x4 → mx_SX mY_X12_type d 136 [(0, .ref x0), (1, .int x1), (3, .int x3), (4, .int x4), (5, .int (0 : Int32))] [] h Q) ∧ (¬ (x1 - (1 : Int32)) ≤ x4 → mx_SX mY_X12_type d 201 [(0, .ref x0), (1, .int x1), (3, .int x3), (4, .int x4)] [] h Q))))) ∧ ((hpI h b2 x4.toNatClampNeg) = (10 : Int32) → ((¬ (1 : Int32) = 0 → mx_SX mY_X12_type d 136 [(0, .ref x0), (1, .int x1), (3, .int x3), (4, .int x4), (5, .int (1 : Int32))] [] h Q) ∧ ((1 : Int32) = 0 → (((x1 - (1 : Int32)) ≤ x4 → mx_SX mY_X12_type d 136 [(0, .ref x0), (1, .int x1), (3, .int x3), (4, .int x4), (5, .int (1 : Int32))] [] h Q) ∧ (¬ (x1 - (1 : Int32)) ≤ x4 → mx_SX mY_X12_type d 201 [(0, .ref x0), (1, .int x1), (3, .int x3), (4, .int x4)] [] h Q))))))))) : mx_SX mY_X12_type d 95 [(0, .ref x0), (1, .int x1), (3, .int x3), (4, .int x4)] [] h Q := by
  refine mx_iload (pc := 95) 3 (mx_dd dd_X12_type_1 18 (95, .iload 4, 2) rfl) rfl ?_
  refine mx_iload_n (pc := 97) 1 (mx_dd dd_X12_type_1 19 (97, .iload_n 1, 1) rfl) rfl rfl ?_
  refine mx_icmp_ge (pc := 98) 207 (mx_dd dd_X12_type_1 20 (98, .if_icmp .ge 109, 3) rfl) rfl (fun c98 => ?_) (fun c98 => ?_)
  · have P := P.1 c98
    refine mx_aload_n (pc := 207) 0 (mx_dd dd_X12_type_3 0 (207, .aload_n 0, 1) rfl) rfl rfl ?_
    obtain ⟨g1, P⟩ := P
    obtain ⟨b1, g2, P⟩ := P
    refine mx_getR (pc := 208) mx_fl_X12_312 g1 rfl g2 (mx_dd dd_X12_type_3 1 (208, .getfield 312, 3) rfl) ?_
    refine mx_sipush (pc := 211) (v := (329 : Int32)) (mx_dd dd_X12_type_3 2 (211, .sipush 329, 3) rfl) (by decide) ?_
    obtain ⟨g3, P⟩ := P
    obtain ⟨g4, P⟩ := P
    refine mx_iald (pc := 214) g3 g4 (mx_dd dd_X12_type_3 3 (214, .iaload, 1) rfl) ?_
    exact mx_ireturn (pc := 215) (mx_dd dd_X12_type_3 4 (215, .ireturn, 1) rfl) rfl rfl P
  · have P := P.2 c98
    refine mx_aload_n (pc := 101) 0 (mx_dd dd_X12_type_1 21 (101, .aload_n 0, 1) rfl) rfl rfl ?_
    obtain ⟨g5, P⟩ := P
    obtain ⟨b2, g6, P⟩ := P
    refine mx_getR (pc := 102) mx_fl_X12_14 g5 rfl g6 (mx_dd dd_X12_type_1 22 (102, .getfield 14, 3) rfl) ?_
    refine mx_iload (pc := 105) 3 (mx_dd dd_X12_type_1 23 (105, .iload 4, 2) rfl) rfl ?_
    obtain ⟨g7, P⟩ := P
    obtain ⟨g8, P⟩ := P
    refine mx_bald (pc := 107) g7 g8 (mx_dd dd_X12_type_1 24 (107, .baload, 1) rfl) ?_
    refine mx_bipush (pc := 108) (v := (10 : Int32)) (mx_dd dd_X12_type_1 25 (108, .bipush 10, 2) rfl) (by decide) ?_
    refine mx_icmp_ne (pc := 110) 117 (mx_dd dd_X12_type_1 26 (110, .if_icmp .ne 7, 3) rfl) rfl (fun c110 => ?_) (fun c110 => ?_)
    · have P := P.1 c110
      refine mx_iconst (pc := 117) (v := (0 : Int32)) (mx_dd dd_X12_type_1 29 (117, .iconst 0, 1) rfl) (by decide) ?_
      refine mx_istore (pc := 118) (mx_dd dd_X12_type_1 30 (118, .istore 5, 2) rfl) (by decide) (lv' := [(5, _), (0, _), (1, _), (3, _), (4, _)]) rfl ?_
      refine mx_iload (pc := 120) 0 (mx_dd dd_X12_type_1 31 (120, .iload 5, 2) rfl) rfl ?_
      refine mx_if_ne (pc := 122) 136 (mx_dd dd_X12_type_1 32 (122, .ifCond .ne 14, 3) rfl) rfl (fun c122 => ?_) (fun c122 => ?_)
      · have P := P.1 c122
        refine mx_sel [1, 2, 3, 4, 0] rfl ?_
        exact P
      · have P := P.2 c122
        refine mx_iload (pc := 125) 4 (mx_dd dd_X12_type_1 33 (125, .iload 4, 2) rfl) rfl ?_
        refine mx_iload_n (pc := 127) 2 (mx_dd dd_X12_type_1 34 (127, .iload_n 1, 1) rfl) rfl rfl ?_
        refine mx_iconst (pc := 128) (v := (1 : Int32)) (mx_dd dd_X12_type_1 35 (128, .iconst 1, 1) rfl) (by decide) ?_
        refine mx_isub (pc := 129) (mx_dd dd_X12_type_1 36 (129, .isub, 1) rfl) ?_
        refine mx_icmp_ge (pc := 130) 136 (mx_dd dd_X12_type_1 37 (130, .if_icmp .ge 6, 3) rfl) rfl (fun c130 => ?_) (fun c130 => ?_)
        · have P := P.1 c130
          refine mx_sel [1, 2, 3, 4, 0] rfl ?_
          exact P
        · have P := P.2 c130
          refine mx_goto (pc := 133) 201 (mx_dd dd_X12_type_1 38 (133, .goto 68, 3) rfl) rfl ?_
          refine mx_sel [1, 2, 3, 4] rfl ?_
          exact P
    · have P := P.2 c110
      refine mx_iconst (pc := 113) (v := (1 : Int32)) (mx_dd dd_X12_type_1 27 (113, .iconst 1, 1) rfl) (by decide) ?_
      refine mx_goto (pc := 114) 118 (mx_dd dd_X12_type_1 28 (114, .goto 4, 3) rfl) rfl ?_
      refine mx_istore (pc := 118) (mx_dd dd_X12_type_1 30 (118, .istore 5, 2) rfl) (by decide) (lv' := [(5, _), (0, _), (1, _), (3, _), (4, _)]) rfl ?_
      refine mx_iload (pc := 120) 0 (mx_dd dd_X12_type_1 31 (120, .iload 5, 2) rfl) rfl ?_
      refine mx_if_ne (pc := 122) 136 (mx_dd dd_X12_type_1 32 (122, .ifCond .ne 14, 3) rfl) rfl (fun c122 => ?_) (fun c122 => ?_)
      · have P := P.1 c122
        refine mx_sel [1, 2, 3, 4, 0] rfl ?_
        exact P
      · have P := P.2 c122
        refine mx_iload (pc := 125) 4 (mx_dd dd_X12_type_1 33 (125, .iload 4, 2) rfl) rfl ?_
        refine mx_iload_n (pc := 127) 2 (mx_dd dd_X12_type_1 34 (127, .iload_n 1, 1) rfl) rfl rfl ?_
        refine mx_iconst (pc := 128) (v := (1 : Int32)) (mx_dd dd_X12_type_1 35 (128, .iconst 1, 1) rfl) (by decide) ?_
        refine mx_isub (pc := 129) (mx_dd dd_X12_type_1 36 (129, .isub, 1) rfl) ?_
        refine mx_icmp_ge (pc := 130) 136 (mx_dd dd_X12_type_1 37 (130, .if_icmp .ge 6, 3) rfl) rfl (fun c130 => ?_) (fun c130 => ?_)
        · have P := P.1 c130
          refine mx_sel [1, 2, 3, 4, 0] rfl ?_
          exact P
        · have P := P.2 c130
          refine mx_goto (pc := 133) 201 (mx_dd dd_X12_type_1 38 (133, .goto 68, 3) rfl) rfl ?_
          refine mx_sel [1, 2, 3, 4] rfl ?_
          exact P
theorem b_X12_type_136 {d : Nat} {h : mxH} {Q : mxRes → mxH → Prop} (x0 : Nat) (x1 : Int32) (x3 : Int32) (x4 : Int32) (x5 : Int32)
    (P : hpK h x0 = 12 ∧ ∃ b1 : Nat, hpR h x0 1 = some b1 ∧ ((x5 = 0 → 1 ≤ d ∧ mx_SM mY_X12_lineOf (d - 1) [.ref x0, .ref b1, .int x3, .int ((x4 + (1 : Int32)) - x3)] h (mx_KI (fun v1 h1 => hpK h1 x0 = 12 ∧ ∃ b2 : Nat, hpR h1 x0 56 = some b2 ∧ hpK h1 b2 = 14 ∧ vp_in (329 : Int32) (hpZ h1 b2) ∧ ∀ h2 : mxH, h2 = hsI h1 b2 (329 : Int32).toNatClampNeg ((hpI h1 b2 (329 : Int32).toNatClampNeg) + (1 : Int32)) → ∃ b3 : Nat, hpR h2 x0 56 = some b3 ∧ hpK h2 b3 = 14 ∧ vp_in (329 : Int32) (hpZ h2 b3) ∧ vp_in ((329 : Int32) + (hpI h2 b3 (329 : Int32).toNatClampNeg)) (hpZ h2 b3) ∧ ∀ h3 : mxH, h3 = hsI h2 b3 ((329 : Int32) + (hpI h2 b3 (329 : Int32).toNatClampNeg)).toNatClampNeg v1 → mx_SX mY_X12_type d 201 [(0, .ref x0), (1, .int x1), (3, .int (x4 + (1 : Int32))), (4, .int x4)] [] h3 Q) (mx_XX mY_X12_type Q))) ∧ (¬ x5 = 0 → 1 ≤ d ∧ mx_SM mY_X12_lineOf (d - 1) [.ref x0, .ref b1, .int x3, .int (x4 - x3)] h (mx_KI (fun v2 h4 => hpK h4 x0 = 12 ∧ ∃ b4 : Nat, hpR h4 x0 56 = some b4 ∧ hpK h4 b4 = 14 ∧ vp_in (329 : Int32) (hpZ h4 b4) ∧ ∀ h5 : mxH, h5 = hsI h4 b4 (329 : Int32).toNatClampNeg ((hpI h4 b4 (329 : Int32).toNatClampNeg) + (1 : Int32)) → ∃ b5 : Nat, hpR h5 x0 56 = some b5 ∧ hpK h5 b5 = 14 ∧ vp_in (329 : Int32) (hpZ h5 b5) ∧ vp_in ((329 : Int32) + (hpI h5 b5 (329 : Int32).toNatClampNeg)) (hpZ h5 b5) ∧ ∀ h6 : mxH, h6 = hsI h5 b5 ((329 : Int32) + (hpI h5 b5 (329 : Int32).toNatClampNeg)).toNatClampNeg v2 → mx_SX mY_X12_type d 201 [(0, .ref x0), (1, .int x1), (3, .int (x4 + (1 : Int32))), (4, .int x4)] [] h6 Q) (mx_XX mY_X12_type Q))))) : mx_SX mY_X12_type d 136 [(0, .ref x0), (1, .int x1), (3, .int x3), (4, .int x4), (5, .int x5)] [] h Q := by
  refine mx_aload_n (pc := 136) 0 (mx_dd dd_X12_type_1 39 (136, .aload_n 0, 1) rfl) rfl rfl ?_
  refine mx_aload_n (pc := 137) 0 (mx_dd dd_X12_type_2 0 (137, .aload_n 0, 1) rfl) rfl rfl ?_
  obtain ⟨g1, P⟩ := P
  obtain ⟨b1, g2, P⟩ := P
  refine mx_getR (pc := 138) mx_fl_X12_14 g1 rfl g2 (mx_dd dd_X12_type_2 1 (138, .getfield 14, 3) rfl) ?_
  refine mx_iload_n (pc := 141) 2 (mx_dd dd_X12_type_2 2 (141, .iload_n 3, 1) rfl) rfl rfl ?_
  refine mx_iload (pc := 142) 4 (mx_dd dd_X12_type_2 3 (142, .iload 5, 2) rfl) rfl ?_
  refine mx_if_eq (pc := 144) 154 (mx_dd dd_X12_type_2 4 (144, .ifCond .eq 10, 3) rfl) rfl (fun c144 => ?_) (fun c144 => ?_)
  · have P := P.1 c144
    refine mx_iload (pc := 154) 3 (mx_dd dd_X12_type_2 9 (154, .iload 4, 2) rfl) rfl ?_
    refine mx_iconst (pc := 156) (v := (1 : Int32)) (mx_dd dd_X12_type_2 10 (156, .iconst 1, 1) rfl) (by decide) ?_
    refine mx_iadd (pc := 157) (mx_dd dd_X12_type_2 11 (157, .iadd, 1) rfl) ?_
    refine mx_iload_n (pc := 158) 2 (mx_dd dd_X12_type_2 12 (158, .iload_n 3, 1) rfl) rfl rfl ?_
    refine mx_isub (pc := 159) (mx_dd dd_X12_type_2 13 (159, .isub, 1) rfl) ?_
    obtain ⟨g3, P⟩ := P
    refine mx_cVI (pc := 160) (Y := mY_X12_lineOf) (As := [.ref _, .int _, .int _]) mx_ml_X12_578 mx_y_X12_lineOf rfl g1 (by decide) rfl (by decide) rfl (mx_dd dd_X12_type_2 14 (160, .invokevirtual 578, 3) rfl) g3 (by decide) P (fun v1 h1 P => ?_)
    refine mx_istore (pc := 163) (mx_dd dd_X12_type_2 15 (163, .istore 6, 2) rfl) (by decide) (lv' := [(6, _), (0, _), (1, _), (3, _), (4, _), (5, _)]) rfl ?_
    refine mx_aload_n (pc := 165) 1 (mx_dd dd_X12_type_2 16 (165, .aload_n 0, 1) rfl) rfl rfl ?_
    obtain ⟨g4, P⟩ := P
    obtain ⟨b2, g5, P⟩ := P
    refine mx_getR (pc := 166) mx_fl_X12_312 g4 rfl g5 (mx_dd dd_X12_type_2 17 (166, .getfield 312, 3) rfl) ?_
    refine mx_sipush (pc := 169) (v := (329 : Int32)) (mx_dd dd_X12_type_2 18 (169, .sipush 329, 3) rfl) (by decide) ?_
    refine mx_dup2 (pc := 172) (mx_dd dd_X12_type_2 19 (172, .dup2, 1) rfl) rfl rfl ?_
    obtain ⟨g6, P⟩ := P
    obtain ⟨g7, P⟩ := P
    refine mx_iald (pc := 173) g6 g7 (mx_dd dd_X12_type_2 20 (173, .iaload, 1) rfl) ?_
    refine mx_iconst (pc := 174) (v := (1 : Int32)) (mx_dd dd_X12_type_2 21 (174, .iconst 1, 1) rfl) (by decide) ?_
    refine mx_iadd (pc := 175) (mx_dd dd_X12_type_2 22 (175, .iadd, 1) rfl) ?_
    refine mx_iast (pc := 176) g6 g7 (mx_dd dd_X12_type_2 23 (176, .iastore, 1) rfl) ?_
    have P := P _ rfl
    refine mx_aload_n (pc := 177) 1 (mx_dd dd_X12_type_2 24 (177, .aload_n 0, 1) rfl) rfl rfl ?_
    obtain ⟨b3, g8, P⟩ := P
    refine mx_getR (pc := 178) mx_fl_X12_312 g4 rfl g8 (mx_dd dd_X12_type_2 25 (178, .getfield 312, 3) rfl) ?_
    refine mx_sipush (pc := 181) (v := (329 : Int32)) (mx_dd dd_X12_type_2 26 (181, .sipush 329, 3) rfl) (by decide) ?_
    refine mx_aload_n (pc := 184) 1 (mx_dd dd_X12_type_2 27 (184, .aload_n 0, 1) rfl) rfl rfl ?_
    refine mx_getR (pc := 185) mx_fl_X12_312 g4 rfl g8 (mx_dd dd_X12_type_2 28 (185, .getfield 312, 3) rfl) ?_
    refine mx_sipush (pc := 188) (v := (329 : Int32)) (mx_dd dd_X12_type_2 29 (188, .sipush 329, 3) rfl) (by decide) ?_
    obtain ⟨g9, P⟩ := P
    obtain ⟨g10, P⟩ := P
    refine mx_iald (pc := 191) g9 g10 (mx_dd dd_X12_type_2 30 (191, .iaload, 1) rfl) ?_
    refine mx_iadd (pc := 192) (mx_dd dd_X12_type_2 31 (192, .iadd, 1) rfl) ?_
    refine mx_iload (pc := 193) 0 (mx_dd dd_X12_type_2 32 (193, .iload 6, 2) rfl) rfl ?_
    obtain ⟨g11, P⟩ := P
    refine mx_iast (pc := 195) g9 g11 (mx_dd dd_X12_type_2 33 (195, .iastore, 1) rfl) ?_
    have P := P _ rfl
    refine mx_iload (pc := 196) 4 (mx_dd dd_X12_type_2 34 (196, .iload 4, 2) rfl) rfl ?_
    refine mx_iconst (pc := 198) (v := (1 : Int32)) (mx_dd dd_X12_type_2 35 (198, .iconst 1, 1) rfl) (by decide) ?_
    refine mx_iadd (pc := 199) (mx_dd dd_X12_type_2 36 (199, .iadd, 1) rfl) ?_
    refine mx_istore_n (pc := 200) (mx_dd dd_X12_type_2 37 (200, .istore_n 3, 1) rfl) rfl (by decide) (lv' := [(3, _), (6, _), (0, _), (1, _), (4, _), (5, _)]) rfl ?_
    refine mx_sel [2, 3, 0, 4] rfl ?_
    exact P
  · have P := P.2 c144
    refine mx_iload (pc := 147) 3 (mx_dd dd_X12_type_2 5 (147, .iload 4, 2) rfl) rfl ?_
    refine mx_iload_n (pc := 149) 2 (mx_dd dd_X12_type_2 6 (149, .iload_n 3, 1) rfl) rfl rfl ?_
    refine mx_isub (pc := 150) (mx_dd dd_X12_type_2 7 (150, .isub, 1) rfl) ?_
    refine mx_goto (pc := 151) 160 (mx_dd dd_X12_type_2 8 (151, .goto 9, 3) rfl) rfl ?_
    obtain ⟨g12, P⟩ := P
    refine mx_cVI (pc := 160) (Y := mY_X12_lineOf) (As := [.ref _, .int _, .int _]) mx_ml_X12_578 mx_y_X12_lineOf rfl g1 (by decide) rfl (by decide) rfl (mx_dd dd_X12_type_2 14 (160, .invokevirtual 578, 3) rfl) g12 (by decide) P (fun v2 h4 P => ?_)
    refine mx_istore (pc := 163) (mx_dd dd_X12_type_2 15 (163, .istore 6, 2) rfl) (by decide) (lv' := [(6, _), (0, _), (1, _), (3, _), (4, _), (5, _)]) rfl ?_
    refine mx_aload_n (pc := 165) 1 (mx_dd dd_X12_type_2 16 (165, .aload_n 0, 1) rfl) rfl rfl ?_
    obtain ⟨g13, P⟩ := P
    obtain ⟨b4, g14, P⟩ := P
    refine mx_getR (pc := 166) mx_fl_X12_312 g13 rfl g14 (mx_dd dd_X12_type_2 17 (166, .getfield 312, 3) rfl) ?_
    refine mx_sipush (pc := 169) (v := (329 : Int32)) (mx_dd dd_X12_type_2 18 (169, .sipush 329, 3) rfl) (by decide) ?_
    refine mx_dup2 (pc := 172) (mx_dd dd_X12_type_2 19 (172, .dup2, 1) rfl) rfl rfl ?_
    obtain ⟨g15, P⟩ := P
    obtain ⟨g16, P⟩ := P
    refine mx_iald (pc := 173) g15 g16 (mx_dd dd_X12_type_2 20 (173, .iaload, 1) rfl) ?_
    refine mx_iconst (pc := 174) (v := (1 : Int32)) (mx_dd dd_X12_type_2 21 (174, .iconst 1, 1) rfl) (by decide) ?_
    refine mx_iadd (pc := 175) (mx_dd dd_X12_type_2 22 (175, .iadd, 1) rfl) ?_
    refine mx_iast (pc := 176) g15 g16 (mx_dd dd_X12_type_2 23 (176, .iastore, 1) rfl) ?_
    have P := P _ rfl
    refine mx_aload_n (pc := 177) 1 (mx_dd dd_X12_type_2 24 (177, .aload_n 0, 1) rfl) rfl rfl ?_
    obtain ⟨b5, g17, P⟩ := P
    refine mx_getR (pc := 178) mx_fl_X12_312 g13 rfl g17 (mx_dd dd_X12_type_2 25 (178, .getfield 312, 3) rfl) ?_
    refine mx_sipush (pc := 181) (v := (329 : Int32)) (mx_dd dd_X12_type_2 26 (181, .sipush 329, 3) rfl) (by decide) ?_
    refine mx_aload_n (pc := 184) 1 (mx_dd dd_X12_type_2 27 (184, .aload_n 0, 1) rfl) rfl rfl ?_
    refine mx_getR (pc := 185) mx_fl_X12_312 g13 rfl g17 (mx_dd dd_X12_type_2 28 (185, .getfield 312, 3) rfl) ?_
    refine mx_sipush (pc := 188) (v := (329 : Int32)) (mx_dd dd_X12_type_2 29 (188, .sipush 329, 3) rfl) (by decide) ?_
    obtain ⟨g18, P⟩ := P
    obtain ⟨g19, P⟩ := P
    refine mx_iald (pc := 191) g18 g19 (mx_dd dd_X12_type_2 30 (191, .iaload, 1) rfl) ?_
    refine mx_iadd (pc := 192) (mx_dd dd_X12_type_2 31 (192, .iadd, 1) rfl) ?_
    refine mx_iload (pc := 193) 0 (mx_dd dd_X12_type_2 32 (193, .iload 6, 2) rfl) rfl ?_
    obtain ⟨g20, P⟩ := P
    refine mx_iast (pc := 195) g18 g20 (mx_dd dd_X12_type_2 33 (195, .iastore, 1) rfl) ?_
    have P := P _ rfl
    refine mx_iload (pc := 196) 4 (mx_dd dd_X12_type_2 34 (196, .iload 4, 2) rfl) rfl ?_
    refine mx_iconst (pc := 198) (v := (1 : Int32)) (mx_dd dd_X12_type_2 35 (198, .iconst 1, 1) rfl) (by decide) ?_
    refine mx_iadd (pc := 199) (mx_dd dd_X12_type_2 36 (199, .iadd, 1) rfl) ?_
    refine mx_istore_n (pc := 200) (mx_dd dd_X12_type_2 37 (200, .istore_n 3, 1) rfl) rfl (by decide) (lv' := [(3, _), (6, _), (0, _), (1, _), (4, _), (5, _)]) rfl ?_
    refine mx_sel [2, 3, 0, 4] rfl ?_
    exact P
theorem b_X12_type_201 {d : Nat} {h : mxH} {Q : mxRes → mxH → Prop} (x0 : Nat) (x1 : Int32) (x3 : Int32) (x4 : Int32)
    (P : mx_SX mY_X12_type d 95 [(0, .ref x0), (1, .int x1), (3, .int x3), (4, .int (x4 + (1 : Int32)))] [] h Q) : mx_SX mY_X12_type d 201 [(0, .ref x0), (1, .int x1), (3, .int x3), (4, .int x4)] [] h Q := by
  refine mx_iinc (pc := 201) 3 (mx_dd dd_X12_type_2 38 (201, .iinc 4 1, 3) rfl) rfl (mx_kadd (by decide : Int32.ofInt 1 = (1 : Int32))) (by decide) (lv' := [(4, _), (0, _), (1, _), (3, _)]) rfl ?_
  refine mx_goto (pc := 204) 95 (mx_dd dd_X12_type_2 39 (204, .goto (-109), 3) rfl) rfl ?_
  refine mx_sel [1, 2, 3, 0] rfl ?_
  exact P
theorem b_X12_run {d : Nat} {h : mxH} {Q : mxRes → mxH → Prop} (x0 : Nat)
    (P : hpK h x0 = 12 ∧ ∀ h1 : mxH, h1 = hsI h x0 0 (0 : Int32) → 1 ≤ d ∧ mx_SM mY_X12_keeps (d - 1) [.ref x0] h1 (mx_KV (fun h2 => mx_SX mY_X12_run d 11 [(0, .ref x0), (1, .int (0 : Int32))] [] h2 Q) (mx_XX mY_X12_run Q))) : mx_SM mY_X12_run d [.ref x0] h Q := by
  refine mx_SM_of (by decide) (Nat.le_of_ble_eq_true rfl) ?_
  show mx_SX mY_X12_run d 0 [(0, .ref x0)] [] h Q
  refine mx_aload_n (pc := 0) 0 (mx_dd dd_X12_run_0 0 (0, .aload_n 0, 1) rfl) rfl rfl ?_
  refine mx_iconst (pc := 1) (v := (0 : Int32)) (mx_dd dd_X12_run_0 1 (1, .iconst 0, 1) rfl) (by decide) ?_
  obtain ⟨g1, P⟩ := P
  refine mx_putI (pc := 2) mx_fl_X12_3 g1 rfl (.inl rfl) rfl rfl (mx_dd dd_X12_run_0 2 (2, .putfield 3, 3) rfl) ?_
  have P := P _ rfl
  refine mx_aload_n (pc := 5) 0 (mx_dd dd_X12_run_0 3 (5, .aload_n 0, 1) rfl) rfl rfl ?_
  obtain ⟨g2, P⟩ := P
  refine mx_cVV (pc := 6) (Y := mY_X12_keeps) (As := []) mx_ml_X12_700 mx_y_X12_keeps rfl g1 (by decide) rfl (by decide) rfl (mx_dd dd_X12_run_0 4 (6, .invokevirtual 700, 3) rfl) g2 (by decide) P (fun h2 P => ?_)
  refine mx_iconst (pc := 9) (v := (0 : Int32)) (mx_dd dd_X12_run_0 5 (9, .iconst 0, 1) rfl) (by decide) ?_
  refine mx_istore_n (pc := 10) (mx_dd dd_X12_run_0 6 (10, .istore_n 1, 1) rfl) rfl (by decide) (lv' := [(1, _), (0, _)]) rfl ?_
  refine mx_sel [1, 0] rfl ?_
  exact P
theorem b_X12_run_11 {d : Nat} {h : mxH} {Q : mxRes → mxH → Prop} (x0 : Nat) (x1 : Int32)
    (P : (((184 : Int32) ≤ x1 → 1 ≤ d ∧ hpK h x0 = 12 ∧ mx_SM mY_X12_sets (d - 1) [.ref x0, .int (0 : Int32), .int (49 : Int32), .int (0 : Int32)] h (mx_KV (fun h1 => hpK h1 x0 = 12 ∧ mx_SM mY_X12_sets (d - 1) [.ref x0, .int (0 : Int32), .int (46 : Int32), .int (0 : Int32)] h1 (mx_KV (fun h2 => hpK h2 x0 = 12 ∧ mx_SM mY_X12_sets (d - 1) [.ref x0, .int (0 : Int32), .int (47 : Int32), .int (0 : Int32)] h2 (mx_KV (fun h3 => hpK h3 x0 = 12 ∧ mx_SM mY_X12_sets (d - 1) [.ref x0, .int (0 : Int32), .int (48 : Int32), .int (0 : Int32)] h3 (mx_KV (fun h4 => mx_SX mY_X12_run d 65 [(0, .ref x0), (1, .int (0 : Int32))] [] h4 Q) (mx_XX mY_X12_run Q))) (mx_XX mY_X12_run Q))) (mx_XX mY_X12_run Q))) (mx_XX mY_X12_run Q))) ∧ (¬ (184 : Int32) ≤ x1 → hpK h x0 = 12 ∧ ∃ b1 : Nat, hpR h x0 73 = some b1 ∧ hpK h b1 = 14 ∧ vp_in x1 (hpZ h b1) ∧ ∀ h5 : mxH, h5 = hsI h b1 x1.toNatClampNeg (0 : Int32) → mx_SX mY_X12_run d 11 [(0, .ref x0), (1, .int (x1 + (1 : Int32)))] [] h5 Q))) : mx_SX mY_X12_run d 11 [(0, .ref x0), (1, .int x1)] [] h Q := by
  refine mx_iload_n (pc := 11) 1 (mx_dd dd_X12_run_0 7 (11, .iload_n 1, 1) rfl) rfl rfl ?_
  refine mx_sipush (pc := 12) (v := (184 : Int32)) (mx_dd dd_X12_run_0 8 (12, .sipush 184, 3) rfl) (by decide) ?_
  refine mx_icmp_ge (pc := 15) 31 (mx_dd dd_X12_run_0 9 (15, .if_icmp .ge 16, 3) rfl) rfl (fun c15 => ?_) (fun c15 => ?_)
  · have P := P.1 c15
    refine mx_aload_n (pc := 31) 0 (mx_dd dd_X12_run_0 17 (31, .aload_n 0, 1) rfl) rfl rfl ?_
    refine mx_iconst (pc := 32) (v := (0 : Int32)) (mx_dd dd_X12_run_0 18 (32, .iconst 0, 1) rfl) (by decide) ?_
    refine mx_bipush (pc := 33) (v := (49 : Int32)) (mx_dd dd_X12_run_0 19 (33, .bipush 49, 2) rfl) (by decide) ?_
    refine mx_iconst (pc := 35) (v := (0 : Int32)) (mx_dd dd_X12_run_0 20 (35, .iconst 0, 1) rfl) (by decide) ?_
    obtain ⟨g1, P⟩ := P
    obtain ⟨g2, P⟩ := P
    refine mx_cVV (pc := 36) (Y := mY_X12_sets) (As := [.int _, .int _, .int _]) mx_ml_X12_419 mx_y_X12_sets rfl g2 (by decide) rfl (by decide) rfl (mx_dd dd_X12_run_0 21 (36, .invokevirtual 419, 3) rfl) g1 (by decide) P (fun h1 P => ?_)
    refine mx_aload_n (pc := 39) 0 (mx_dd dd_X12_run_0 22 (39, .aload_n 0, 1) rfl) rfl rfl ?_
    refine mx_iconst (pc := 40) (v := (0 : Int32)) (mx_dd dd_X12_run_0 23 (40, .iconst 0, 1) rfl) (by decide) ?_
    refine mx_bipush (pc := 41) (v := (46 : Int32)) (mx_dd dd_X12_run_0 24 (41, .bipush 46, 2) rfl) (by decide) ?_
    refine mx_iconst (pc := 43) (v := (0 : Int32)) (mx_dd dd_X12_run_0 25 (43, .iconst 0, 1) rfl) (by decide) ?_
    obtain ⟨g3, P⟩ := P
    refine mx_cVV (pc := 44) (Y := mY_X12_sets) (As := [.int _, .int _, .int _]) mx_ml_X12_419 mx_y_X12_sets rfl g3 (by decide) rfl (by decide) rfl (mx_dd dd_X12_run_0 26 (44, .invokevirtual 419, 3) rfl) g1 (by decide) P (fun h2 P => ?_)
    refine mx_aload_n (pc := 47) 0 (mx_dd dd_X12_run_0 27 (47, .aload_n 0, 1) rfl) rfl rfl ?_
    refine mx_iconst (pc := 48) (v := (0 : Int32)) (mx_dd dd_X12_run_0 28 (48, .iconst 0, 1) rfl) (by decide) ?_
    refine mx_bipush (pc := 49) (v := (47 : Int32)) (mx_dd dd_X12_run_0 29 (49, .bipush 47, 2) rfl) (by decide) ?_
    refine mx_iconst (pc := 51) (v := (0 : Int32)) (mx_dd dd_X12_run_0 30 (51, .iconst 0, 1) rfl) (by decide) ?_
    obtain ⟨g4, P⟩ := P
    refine mx_cVV (pc := 52) (Y := mY_X12_sets) (As := [.int _, .int _, .int _]) mx_ml_X12_419 mx_y_X12_sets rfl g4 (by decide) rfl (by decide) rfl (mx_dd dd_X12_run_0 31 (52, .invokevirtual 419, 3) rfl) g1 (by decide) P (fun h3 P => ?_)
    refine mx_aload_n (pc := 55) 0 (mx_dd dd_X12_run_0 32 (55, .aload_n 0, 1) rfl) rfl rfl ?_
    refine mx_iconst (pc := 56) (v := (0 : Int32)) (mx_dd dd_X12_run_0 33 (56, .iconst 0, 1) rfl) (by decide) ?_
    refine mx_bipush (pc := 57) (v := (48 : Int32)) (mx_dd dd_X12_run_0 34 (57, .bipush 48, 2) rfl) (by decide) ?_
    refine mx_iconst (pc := 59) (v := (0 : Int32)) (mx_dd dd_X12_run_0 35 (59, .iconst 0, 1) rfl) (by decide) ?_
    obtain ⟨g5, P⟩ := P
    refine mx_cVV (pc := 60) (Y := mY_X12_sets) (As := [.int _, .int _, .int _]) mx_ml_X12_419 mx_y_X12_sets rfl g5 (by decide) rfl (by decide) rfl (mx_dd dd_X12_run_0 36 (60, .invokevirtual 419, 3) rfl) g1 (by decide) P (fun h4 P => ?_)
    refine mx_iconst (pc := 63) (v := (0 : Int32)) (mx_dd dd_X12_run_0 37 (63, .iconst 0, 1) rfl) (by decide) ?_
    refine mx_istore_n (pc := 64) (mx_dd dd_X12_run_0 38 (64, .istore_n 1, 1) rfl) rfl (by decide) (lv' := [(1, _), (0, _)]) rfl ?_
    refine mx_sel [1, 0] rfl ?_
    exact P
  · have P := P.2 c15
    refine mx_aload_n (pc := 18) 0 (mx_dd dd_X12_run_0 10 (18, .aload_n 0, 1) rfl) rfl rfl ?_
    obtain ⟨g6, P⟩ := P
    obtain ⟨b1, g7, P⟩ := P
    refine mx_getR (pc := 19) mx_fl_X12_413 g6 rfl g7 (mx_dd dd_X12_run_0 11 (19, .getfield 413, 3) rfl) ?_
    refine mx_iload_n (pc := 22) 1 (mx_dd dd_X12_run_0 12 (22, .iload_n 1, 1) rfl) rfl rfl ?_
    refine mx_iconst (pc := 23) (v := (0 : Int32)) (mx_dd dd_X12_run_0 13 (23, .iconst 0, 1) rfl) (by decide) ?_
    obtain ⟨g8, P⟩ := P
    obtain ⟨g9, P⟩ := P
    refine mx_iast (pc := 24) g8 g9 (mx_dd dd_X12_run_0 14 (24, .iastore, 1) rfl) ?_
    have P := P _ rfl
    refine mx_iinc (pc := 25) 1 (mx_dd dd_X12_run_0 15 (25, .iinc 1 1, 3) rfl) rfl (mx_kadd (by decide : Int32.ofInt 1 = (1 : Int32))) (by decide) (lv' := [(1, _), (0, _)]) rfl ?_
    refine mx_goto (pc := 28) 11 (mx_dd dd_X12_run_0 16 (28, .goto (-17), 3) rfl) rfl ?_
    refine mx_sel [1, 0] rfl ?_
    exact P
theorem b_X12_run_65 {d : Nat} {h : mxH} {Q : mxRes → mxH → Prop} (x0 : Nat) (x1 : Int32)
    (P : (((10 : Int32) ≤ x1 → hpK h x0 = 12 ∧ ∀ h1 : mxH, h1 = hsI h x0 69 (10 : Int32) → 1 ≤ d ∧ mx_SM mY_X12_runsScript (d - 1) [.ref x0, .int (0 : Int32), .int (hpI h1 x0 50)] h1 (mx_KV (fun h2 => hpK h2 x0 = 12 ∧ mx_SM mY_X12_isStoppedNow (d - 1) [.ref x0] h2 (mx_KI (fun v1 h3 => ((¬ v1 = 0 → mx_SX mY_X12_run d 116 [(0, .ref x0)] [] h3 Q) ∧ (v1 = 0 → hpK h3 x0 = 12 ∧ mx_SM mY_X12_finishes (d - 1) [.ref x0, .int (0 : Int32)] h3 (mx_KV (fun h4 => mx_SX mY_X12_run d 116 [(0, .ref x0)] [] h4 Q) (mx_XX mY_X12_run Q))))) (mx_XX mY_X12_run Q))) (mx_XX mY_X12_run Q))) ∧ (¬ (10 : Int32) ≤ x1 → hpK h x0 = 12 ∧ ∃ b1 : Nat, hpR h x0 68 = some b1 ∧ 1 ≤ d ∧ mx_SM mY_X12_handle (d - 1) [.ref x0, .int (0 : Int32), .int x1] h (mx_KI (fun v2 h5 => hpK h5 b1 = 14 ∧ vp_in x1 (hpZ h5 b1) ∧ ∀ h6 : mxH, h6 = hsI h5 b1 x1.toNatClampNeg v2 → mx_SX mY_X12_run d 65 [(0, .ref x0), (1, .int (x1 + (1 : Int32)))] [] h6 Q) (mx_XX mY_X12_run Q))))) : mx_SX mY_X12_run d 65 [(0, .ref x0), (1, .int x1)] [] h Q := by
  refine mx_iload_n (pc := 65) 1 (mx_dd dd_X12_run_0 39 (65, .iload_n 1, 1) rfl) rfl rfl ?_
  refine mx_bipush (pc := 66) (v := (10 : Int32)) (mx_dd dd_X12_run_1 0 (66, .bipush 10, 2) rfl) (by decide) ?_
  refine mx_icmp_ge (pc := 68) 89 (mx_dd dd_X12_run_1 1 (68, .if_icmp .ge 21, 3) rfl) rfl (fun c68 => ?_) (fun c68 => ?_)
  · have P := P.1 c68
    refine mx_aload_n (pc := 89) 0 (mx_dd dd_X12_run_1 12 (89, .aload_n 0, 1) rfl) rfl rfl ?_
    refine mx_bipush (pc := 90) (v := (10 : Int32)) (mx_dd dd_X12_run_1 13 (90, .bipush 10, 2) rfl) (by decide) ?_
    obtain ⟨g1, P⟩ := P
    refine mx_putI (pc := 92) mx_fl_X12_374 g1 rfl (.inl rfl) rfl rfl (mx_dd dd_X12_run_1 14 (92, .putfield 374, 3) rfl) ?_
    have P := P _ rfl
    refine mx_aload_n (pc := 95) 0 (mx_dd dd_X12_run_1 15 (95, .aload_n 0, 1) rfl) rfl rfl ?_
    refine mx_iconst (pc := 96) (v := (0 : Int32)) (mx_dd dd_X12_run_1 16 (96, .iconst 0, 1) rfl) (by decide) ?_
    refine mx_aload_n (pc := 97) 0 (mx_dd dd_X12_run_1 17 (97, .aload_n 0, 1) rfl) rfl rfl ?_
    refine mx_getI (pc := 98) mx_fl_X12_302 g1 rfl (mx_dd dd_X12_run_1 18 (98, .getfield 302, 3) rfl) ?_
    obtain ⟨g2, P⟩ := P
    refine mx_cVV (pc := 101) (Y := mY_X12_runsScript) (As := [.int _, .int _]) mx_ml_X12_519 mx_y_X12_runsScript rfl g1 (by decide) rfl (by decide) rfl (mx_dd dd_X12_run_1 19 (101, .invokevirtual 519, 3) rfl) g2 (by decide) P (fun h2 P => ?_)
    refine mx_aload_n (pc := 104) 0 (mx_dd dd_X12_run_1 20 (104, .aload_n 0, 1) rfl) rfl rfl ?_
    obtain ⟨g3, P⟩ := P
    refine mx_cVI (pc := 105) (Y := mY_X12_isStoppedNow) (As := []) mx_ml_X12_465 mx_y_X12_isStoppedNow rfl g3 (by decide) rfl (by decide) rfl (mx_dd dd_X12_run_1 21 (105, .invokevirtual 465, 3) rfl) g2 (by decide) P (fun v1 h3 P => ?_)
    refine mx_if_ne (pc := 108) 116 (mx_dd dd_X12_run_1 22 (108, .ifCond .ne 8, 3) rfl) rfl (fun c108 => ?_) (fun c108 => ?_)
    · have P := P.1 c108
      refine mx_sel [0] rfl ?_
      exact P
    · have P := P.2 c108
      refine mx_aload_n (pc := 111) 0 (mx_dd dd_X12_run_1 23 (111, .aload_n 0, 1) rfl) rfl rfl ?_
      refine mx_iconst (pc := 112) (v := (0 : Int32)) (mx_dd dd_X12_run_1 24 (112, .iconst 0, 1) rfl) (by decide) ?_
      obtain ⟨g4, P⟩ := P
      refine mx_cVV (pc := 113) (Y := mY_X12_finishes) (As := [.int _]) mx_ml_X12_495 mx_y_X12_finishes rfl g4 (by decide) rfl (by decide) rfl (mx_dd dd_X12_run_1 25 (113, .invokevirtual 495, 3) rfl) g2 (by decide) P (fun h4 P => ?_)
      refine mx_sel [0] rfl ?_
      exact P
  · have P := P.2 c68
    refine mx_aload_n (pc := 71) 0 (mx_dd dd_X12_run_1 2 (71, .aload_n 0, 1) rfl) rfl rfl ?_
    obtain ⟨g5, P⟩ := P
    obtain ⟨b1, g6, P⟩ := P
    refine mx_getR (pc := 72) mx_fl_X12_377 g5 rfl g6 (mx_dd dd_X12_run_1 3 (72, .getfield 377, 3) rfl) ?_
    refine mx_iload_n (pc := 75) 1 (mx_dd dd_X12_run_1 4 (75, .iload_n 1, 1) rfl) rfl rfl ?_
    refine mx_aload_n (pc := 76) 0 (mx_dd dd_X12_run_1 5 (76, .aload_n 0, 1) rfl) rfl rfl ?_
    refine mx_iconst (pc := 77) (v := (0 : Int32)) (mx_dd dd_X12_run_1 6 (77, .iconst 0, 1) rfl) (by decide) ?_
    refine mx_iload_n (pc := 78) 1 (mx_dd dd_X12_run_1 7 (78, .iload_n 1, 1) rfl) rfl rfl ?_
    obtain ⟨g7, P⟩ := P
    refine mx_cVI (pc := 79) (Y := mY_X12_handle) (As := [.int _, .int _]) mx_ml_X12_371 mx_y_X12_handle rfl g5 (by decide) rfl (by simp [Value.category]) rfl (mx_dd dd_X12_run_1 8 (79, .invokevirtual 371, 3) rfl) g7 (by decide) P (fun v2 h5 P => ?_)
    obtain ⟨g8, P⟩ := P
    obtain ⟨g9, P⟩ := P
    refine mx_iast (pc := 82) g8 g9 (mx_dd dd_X12_run_1 9 (82, .iastore, 1) rfl) ?_
    have P := P _ rfl
    refine mx_iinc (pc := 83) 1 (mx_dd dd_X12_run_1 10 (83, .iinc 1 1, 3) rfl) rfl (mx_kadd (by decide : Int32.ofInt 1 = (1 : Int32))) (by decide) (lv' := [(1, _), (0, _)]) rfl ?_
    refine mx_goto (pc := 86) 65 (mx_dd dd_X12_run_1 11 (86, .goto (-21), 3) rfl) rfl ?_
    refine mx_sel [1, 0] rfl ?_
    exact P
theorem b_X12_run_116 {d : Nat} {h : mxH} {Q : mxRes → mxH → Prop} (x0 : Nat)
    (P : mx_SX mY_X12_run d 118 [(0, .ref x0), (1, .int (0 : Int32))] [] h Q) : mx_SX mY_X12_run d 116 [(0, .ref x0)] [] h Q := by
  refine mx_iconst (pc := 116) (v := (0 : Int32)) (mx_dd dd_X12_run_1 26 (116, .iconst 0, 1) rfl) (by decide) ?_
  refine mx_istore_n (pc := 117) (mx_dd dd_X12_run_1 27 (117, .istore_n 1, 1) rfl) rfl (by decide) (lv' := [(1, _), (0, _)]) rfl ?_
  refine mx_sel [1, 0] rfl ?_
  exact P
theorem b_X12_run_118 {d : Nat} {h : mxH} {Q : mxRes → mxH → Prop} (x0 : Nat) (x1 : Int32)
    (P : (((10 : Int32) ≤ x1 → mx_SX mY_X12_run d 152 [(0, .ref x0)] [] h Q) ∧ (¬ (10 : Int32) ≤ x1 → 1 ≤ d ∧ hpK h x0 = 12 ∧ mx_SM mY_X12_isStoppedNow (d - 1) [.ref x0] h (mx_KI (fun v1 h1 => ((v1 = 0 → mx_SX mY_X12_run d 152 [(0, .ref x0)] [] h1 Q) ∧ (¬ v1 = 0 → hpK h1 x0 = 12 ∧ ∃ b1 : Nat, hpR h1 x0 68 = some b1 ∧ hpK h1 b1 = 14 ∧ vp_in x1 (hpZ h1 b1) ∧ mx_SM mY_X12_sets (d - 1) [.ref x0, .int (0 : Int32), .int ((36 : Int32) + x1), .int (hpI h1 b1 x1.toNatClampNeg)] h1 (mx_KV (fun h2 => mx_SX mY_X12_run d 118 [(0, .ref x0), (1, .int (x1 + (1 : Int32)))] [] h2 Q) (mx_XX mY_X12_run Q))))) (mx_XX mY_X12_run Q))))) : mx_SX mY_X12_run d 118 [(0, .ref x0), (1, .int x1)] [] h Q := by
  refine mx_iload_n (pc := 118) 1 (mx_dd dd_X12_run_1 28 (118, .iload_n 1, 1) rfl) rfl rfl ?_
  refine mx_bipush (pc := 119) (v := (10 : Int32)) (mx_dd dd_X12_run_1 29 (119, .bipush 10, 2) rfl) (by decide) ?_
  refine mx_icmp_ge (pc := 121) 152 (mx_dd dd_X12_run_1 30 (121, .if_icmp .ge 31, 3) rfl) rfl (fun c121 => ?_) (fun c121 => ?_)
  · have P := P.1 c121
    refine mx_sel [0] rfl ?_
    exact P
  · have P := P.2 c121
    refine mx_aload_n (pc := 124) 0 (mx_dd dd_X12_run_1 31 (124, .aload_n 0, 1) rfl) rfl rfl ?_
    obtain ⟨g1, P⟩ := P
    obtain ⟨g2, P⟩ := P
    refine mx_cVI (pc := 125) (Y := mY_X12_isStoppedNow) (As := []) mx_ml_X12_465 mx_y_X12_isStoppedNow rfl g2 (by decide) rfl (by decide) rfl (mx_dd dd_X12_run_1 32 (125, .invokevirtual 465, 3) rfl) g1 (by decide) P (fun v1 h1 P => ?_)
    refine mx_if_eq (pc := 128) 152 (mx_dd dd_X12_run_1 33 (128, .ifCond .eq 24, 3) rfl) rfl (fun c128 => ?_) (fun c128 => ?_)
    · have P := P.1 c128
      refine mx_sel [0] rfl ?_
      exact P
    · have P := P.2 c128
      refine mx_aload_n (pc := 131) 0 (mx_dd dd_X12_run_1 34 (131, .aload_n 0, 1) rfl) rfl rfl ?_
      refine mx_iconst (pc := 132) (v := (0 : Int32)) (mx_dd dd_X12_run_1 35 (132, .iconst 0, 1) rfl) (by decide) ?_
      refine mx_bipush (pc := 133) (v := (36 : Int32)) (mx_dd dd_X12_run_1 36 (133, .bipush 36, 2) rfl) (by decide) ?_
      refine mx_iload_n (pc := 135) 1 (mx_dd dd_X12_run_1 37 (135, .iload_n 1, 1) rfl) rfl rfl ?_
      refine mx_iadd (pc := 136) (mx_dd dd_X12_run_1 38 (136, .iadd, 1) rfl) ?_
      refine mx_aload_n (pc := 137) 0 (mx_dd dd_X12_run_1 39 (137, .aload_n 0, 1) rfl) rfl rfl ?_
      obtain ⟨g3, P⟩ := P
      obtain ⟨b1, g4, P⟩ := P
      refine mx_getR (pc := 138) mx_fl_X12_377 g3 rfl g4 (mx_dd dd_X12_run_2 0 (138, .getfield 377, 3) rfl) ?_
      refine mx_iload_n (pc := 141) 1 (mx_dd dd_X12_run_2 1 (141, .iload_n 1, 1) rfl) rfl rfl ?_
      obtain ⟨g5, P⟩ := P
      obtain ⟨g6, P⟩ := P
      refine mx_iald (pc := 142) g5 g6 (mx_dd dd_X12_run_2 2 (142, .iaload, 1) rfl) ?_
      refine mx_cVV (pc := 143) (Y := mY_X12_sets) (As := [.int _, .int _, .int _]) mx_ml_X12_419 mx_y_X12_sets rfl g3 (by decide) rfl (by decide) rfl (mx_dd dd_X12_run_2 3 (143, .invokevirtual 419, 3) rfl) g1 (by decide) P (fun h2 P => ?_)
      refine mx_iinc (pc := 146) 1 (mx_dd dd_X12_run_2 4 (146, .iinc 1 1, 3) rfl) rfl (mx_kadd (by decide : Int32.ofInt 1 = (1 : Int32))) (by decide) (lv' := [(1, _), (0, _)]) rfl ?_
      refine mx_goto (pc := 149) 118 (mx_dd dd_X12_run_2 5 (149, .goto (-31), 3) rfl) rfl ?_
      refine mx_sel [1, 0] rfl ?_
      exact P
theorem b_X12_run_152 {d : Nat} {h : mxH} {Q : mxRes → mxH → Prop} (x0 : Nat)
    (P : hpK h x0 = 12 ∧ ∀ h1 : mxH, h1 = hsI h x0 69 (0 : Int32) → 1 ≤ d ∧ mx_SM mY_X12_sets (d - 1) [.ref x0, .int (0 : Int32), .int (46 : Int32), .int (0 : Int32)] h1 (mx_KV (fun h2 => hpK h2 x0 = 12 ∧ mx_SM mY_X12_sets (d - 1) [.ref x0, .int (0 : Int32), .int (48 : Int32), .int (0 : Int32)] h2 (mx_KV (fun h3 => mx_SX mY_X12_run d 175 [(0, .ref x0), (1, .int (1 : Int32))] [] h3 Q) (mx_XX mY_X12_run Q))) (mx_XX mY_X12_run Q))) : mx_SX mY_X12_run d 152 [(0, .ref x0)] [] h Q := by
  refine mx_aload_n (pc := 152) 0 (mx_dd dd_X12_run_2 6 (152, .aload_n 0, 1) rfl) rfl rfl ?_
  refine mx_iconst (pc := 153) (v := (0 : Int32)) (mx_dd dd_X12_run_2 7 (153, .iconst 0, 1) rfl) (by decide) ?_
  obtain ⟨g1, P⟩ := P
  refine mx_putI (pc := 154) mx_fl_X12_374 g1 rfl (.inl rfl) rfl rfl (mx_dd dd_X12_run_2 8 (154, .putfield 374, 3) rfl) ?_
  have P := P _ rfl
  refine mx_aload_n (pc := 157) 0 (mx_dd dd_X12_run_2 9 (157, .aload_n 0, 1) rfl) rfl rfl ?_
  refine mx_iconst (pc := 158) (v := (0 : Int32)) (mx_dd dd_X12_run_2 10 (158, .iconst 0, 1) rfl) (by decide) ?_
  refine mx_bipush (pc := 159) (v := (46 : Int32)) (mx_dd dd_X12_run_2 11 (159, .bipush 46, 2) rfl) (by decide) ?_
  refine mx_iconst (pc := 161) (v := (0 : Int32)) (mx_dd dd_X12_run_2 12 (161, .iconst 0, 1) rfl) (by decide) ?_
  obtain ⟨g2, P⟩ := P
  refine mx_cVV (pc := 162) (Y := mY_X12_sets) (As := [.int _, .int _, .int _]) mx_ml_X12_419 mx_y_X12_sets rfl g1 (by decide) rfl (by decide) rfl (mx_dd dd_X12_run_2 13 (162, .invokevirtual 419, 3) rfl) g2 (by decide) P (fun h2 P => ?_)
  refine mx_aload_n (pc := 165) 0 (mx_dd dd_X12_run_2 14 (165, .aload_n 0, 1) rfl) rfl rfl ?_
  refine mx_iconst (pc := 166) (v := (0 : Int32)) (mx_dd dd_X12_run_2 15 (166, .iconst 0, 1) rfl) (by decide) ?_
  refine mx_bipush (pc := 167) (v := (48 : Int32)) (mx_dd dd_X12_run_2 16 (167, .bipush 48, 2) rfl) (by decide) ?_
  refine mx_iconst (pc := 169) (v := (0 : Int32)) (mx_dd dd_X12_run_2 17 (169, .iconst 0, 1) rfl) (by decide) ?_
  obtain ⟨g3, P⟩ := P
  refine mx_cVV (pc := 170) (Y := mY_X12_sets) (As := [.int _, .int _, .int _]) mx_ml_X12_419 mx_y_X12_sets rfl g3 (by decide) rfl (by decide) rfl (mx_dd dd_X12_run_2 18 (170, .invokevirtual 419, 3) rfl) g2 (by decide) P (fun h3 P => ?_)
  refine mx_iconst (pc := 173) (v := (1 : Int32)) (mx_dd dd_X12_run_2 19 (173, .iconst 1, 1) rfl) (by decide) ?_
  refine mx_istore_n (pc := 174) (mx_dd dd_X12_run_2 20 (174, .istore_n 1, 1) rfl) rfl (by decide) (lv' := [(1, _), (0, _)]) rfl ?_
  refine mx_sel [1, 0] rfl ?_
  exact P
theorem b_X12_run_175 {d : Nat} {h : mxH} {Q : mxRes → mxH → Prop} (x0 : Nat) (x1 : Int32)
    (P : (((1000 : Int32) ≤ x1 → mx_SX mY_X12_run d 198 [(0, .ref x0), (1, .int (0 : Int32))] [] h Q) ∧ (¬ (1000 : Int32) ≤ x1 → 1 ≤ d ∧ hpK h x0 = 12 ∧ mx_SM mY_X12_sets (d - 1) [.ref x0, .int x1, .int (82 : Int32), .int (0 : Int32)] h (mx_KV (fun h1 => mx_SX mY_X12_run d 175 [(0, .ref x0), (1, .int (x1 + (1 : Int32)))] [] h1 Q) (mx_XX mY_X12_run Q))))) : mx_SX mY_X12_run d 175 [(0, .ref x0), (1, .int x1)] [] h Q := by
  refine mx_iload_n (pc := 175) 1 (mx_dd dd_X12_run_2 21 (175, .iload_n 1, 1) rfl) rfl rfl ?_
  refine mx_sipush (pc := 176) (v := (1000 : Int32)) (mx_dd dd_X12_run_2 22 (176, .sipush 1000, 3) rfl) (by decide) ?_
  refine mx_icmp_ge (pc := 179) 196 (mx_dd dd_X12_run_2 23 (179, .if_icmp .ge 17, 3) rfl) rfl (fun c179 => ?_) (fun c179 => ?_)
  · have P := P.1 c179
    refine mx_iconst (pc := 196) (v := (0 : Int32)) (mx_dd dd_X12_run_2 31 (196, .iconst 0, 1) rfl) (by decide) ?_
    refine mx_istore_n (pc := 197) (mx_dd dd_X12_run_2 32 (197, .istore_n 1, 1) rfl) rfl (by decide) (lv' := [(1, _), (0, _)]) rfl ?_
    refine mx_sel [1, 0] rfl ?_
    exact P
  · have P := P.2 c179
    refine mx_aload_n (pc := 182) 0 (mx_dd dd_X12_run_2 24 (182, .aload_n 0, 1) rfl) rfl rfl ?_
    refine mx_iload_n (pc := 183) 1 (mx_dd dd_X12_run_2 25 (183, .iload_n 1, 1) rfl) rfl rfl ?_
    refine mx_bipush (pc := 184) (v := (82 : Int32)) (mx_dd dd_X12_run_2 26 (184, .bipush 82, 2) rfl) (by decide) ?_
    refine mx_iconst (pc := 186) (v := (0 : Int32)) (mx_dd dd_X12_run_2 27 (186, .iconst 0, 1) rfl) (by decide) ?_
    obtain ⟨g1, P⟩ := P
    obtain ⟨g2, P⟩ := P
    refine mx_cVV (pc := 187) (Y := mY_X12_sets) (As := [.int _, .int _, .int _]) mx_ml_X12_419 mx_y_X12_sets rfl g2 (by decide) rfl (by decide) rfl (mx_dd dd_X12_run_2 28 (187, .invokevirtual 419, 3) rfl) g1 (by decide) P (fun h1 P => ?_)
    refine mx_iinc (pc := 190) 1 (mx_dd dd_X12_run_2 29 (190, .iinc 1 1, 3) rfl) rfl (mx_kadd (by decide : Int32.ofInt 1 = (1 : Int32))) (by decide) (lv' := [(1, _), (0, _)]) rfl ?_
    refine mx_goto (pc := 193) 175 (mx_dd dd_X12_run_2 30 (193, .goto (-18), 3) rfl) rfl ?_
    refine mx_sel [1, 0] rfl ?_
    exact P
theorem b_X12_run_198 {d : Nat} {h : mxH} {Q : mxRes → mxH → Prop} (x0 : Nat) (x1 : Int32)
    (P : (((400 : Int32) ≤ x1 → 1 ≤ d ∧ hpK h x0 = 12 ∧ mx_SM mY_X12_statusOf (d - 1) [.ref x0, .int (0 : Int32)] h (mx_KI (fun v1 h1 => Q (.inl (some (.int v1))) h1) (mx_XX mY_X12_run Q))) ∧ (¬ (400 : Int32) ≤ x1 → hpK h x0 = 12 ∧ ∃ b1 : Nat, hpR h x0 63 = some b1 ∧ hpK h b1 = 16 ∧ vp_in x1 (hpZ h b1) ∧ (((hpI h b1 x1.toNatClampNeg) = 0 → mx_SX mY_X12_run d 219 [(0, .ref x0), (1, .int x1)] [] h Q) ∧ (¬ (hpI h b1 x1.toNatClampNeg) = 0 → 1 ≤ d ∧ mx_SM mY_X12_closesPipe (d - 1) [.ref x0, .int x1] h (mx_KV (fun h2 => mx_SX mY_X12_run d 219 [(0, .ref x0), (1, .int x1)] [] h2 Q) (mx_XX mY_X12_run Q))))))) : mx_SX mY_X12_run d 198 [(0, .ref x0), (1, .int x1)] [] h Q := by
  refine mx_iload_n (pc := 198) 1 (mx_dd dd_X12_run_2 33 (198, .iload_n 1, 1) rfl) rfl rfl ?_
  refine mx_sipush (pc := 199) (v := (400 : Int32)) (mx_dd dd_X12_run_2 34 (199, .sipush 400, 3) rfl) (by decide) ?_
  refine mx_icmp_ge (pc := 202) 225 (mx_dd dd_X12_run_2 35 (202, .if_icmp .ge 23, 3) rfl) rfl (fun c202 => ?_) (fun c202 => ?_)
  · have P := P.1 c202
    refine mx_aload_n (pc := 225) 0 (mx_dd dd_X12_run_3 6 (225, .aload_n 0, 1) rfl) rfl rfl ?_
    refine mx_iconst (pc := 226) (v := (0 : Int32)) (mx_dd dd_X12_run_3 7 (226, .iconst 0, 1) rfl) (by decide) ?_
    obtain ⟨g1, P⟩ := P
    obtain ⟨g2, P⟩ := P
    refine mx_cVI (pc := 227) (Y := mY_X12_statusOf) (As := [.int _]) mx_ml_X12_477 mx_y_X12_statusOf rfl g2 (by decide) rfl (by decide) rfl (mx_dd dd_X12_run_3 8 (227, .invokevirtual 477, 3) rfl) g1 (by decide) P (fun v1 h1 P => ?_)
    exact mx_ireturn (pc := 230) (mx_dd dd_X12_run_3 9 (230, .ireturn, 1) rfl) rfl rfl P
  · have P := P.2 c202
    refine mx_aload_n (pc := 205) 0 (mx_dd dd_X12_run_2 36 (205, .aload_n 0, 1) rfl) rfl rfl ?_
    obtain ⟨g3, P⟩ := P
    obtain ⟨b1, g4, P⟩ := P
    refine mx_getR (pc := 206) mx_fl_X12_395 g3 rfl g4 (mx_dd dd_X12_run_2 37 (206, .getfield 395, 3) rfl) ?_
    refine mx_iload_n (pc := 209) 1 (mx_dd dd_X12_run_2 38 (209, .iload_n 1, 1) rfl) rfl rfl ?_
    obtain ⟨g5, P⟩ := P
    obtain ⟨g6, P⟩ := P
    refine mx_zald (pc := 210) g5 g6 (mx_dd dd_X12_run_2 39 (210, .baload, 1) rfl) ?_
    refine mx_if_eq (pc := 211) 219 (mx_dd dd_X12_run_3 0 (211, .ifCond .eq 8, 3) rfl) rfl (fun c211 => ?_) (fun c211 => ?_)
    · have P := P.1 c211
      exact P
    · have P := P.2 c211
      refine mx_aload_n (pc := 214) 0 (mx_dd dd_X12_run_3 1 (214, .aload_n 0, 1) rfl) rfl rfl ?_
      refine mx_iload_n (pc := 215) 1 (mx_dd dd_X12_run_3 2 (215, .iload_n 1, 1) rfl) rfl rfl ?_
      obtain ⟨g7, P⟩ := P
      refine mx_cVV (pc := 216) (Y := mY_X12_closesPipe) (As := [.int _]) mx_ml_X12_498 mx_y_X12_closesPipe rfl g3 (by decide) rfl (by decide) rfl (mx_dd dd_X12_run_3 3 (216, .invokevirtual 498, 3) rfl) g7 (by decide) P (fun h2 P => ?_)
      exact P
theorem b_X12_run_219 {d : Nat} {h : mxH} {Q : mxRes → mxH → Prop} (x0 : Nat) (x1 : Int32)
    (P : mx_SX mY_X12_run d 198 [(0, .ref x0), (1, .int (x1 + (1 : Int32)))] [] h Q) : mx_SX mY_X12_run d 219 [(0, .ref x0), (1, .int x1)] [] h Q := by
  refine mx_iinc (pc := 219) 1 (mx_dd dd_X12_run_3 4 (219, .iinc 1 1, 3) rfl) rfl (mx_kadd (by decide : Int32.ofInt 1 = (1 : Int32))) (by decide) (lv' := [(1, _), (0, _)]) rfl ?_
  refine mx_goto (pc := 222) 198 (mx_dd dd_X12_run_3 5 (222, .goto (-24), 3) rfl) rfl ?_
  refine mx_sel [1, 0] rfl ?_
  exact P
theorem b_X12_status {d : Nat} {h : mxH} {Q : mxRes → mxH → Prop} (x0 : Nat)
    (P : hpK h x0 = 12 ∧ ∀ h1 : mxH, h1 = hsI h x0 0 (0 : Int32) → 1 ≤ d ∧ mx_SM mY_X12_statusOf (d - 1) [.ref x0, .int (0 : Int32)] h1 (mx_KI (fun v1 h2 => Q (.inl (some (.int v1))) h2) (mx_XX mY_X12_status Q))) : mx_SM mY_X12_status d [.ref x0] h Q := by
  refine mx_SM_of (by decide) (Nat.le_of_ble_eq_true rfl) ?_
  show mx_SX mY_X12_status d 0 [(0, .ref x0)] [] h Q
  refine mx_aload_n (pc := 0) 0 (mx_dd dd_X12_status 0 (0, .aload_n 0, 1) rfl) rfl rfl ?_
  refine mx_iconst (pc := 1) (v := (0 : Int32)) (mx_dd dd_X12_status 1 (1, .iconst 0, 1) rfl) (by decide) ?_
  obtain ⟨g1, P⟩ := P
  refine mx_putI (pc := 2) mx_fl_X12_3 g1 rfl (.inl rfl) rfl rfl (mx_dd dd_X12_status 2 (2, .putfield 3, 3) rfl) ?_
  have P := P _ rfl
  refine mx_aload_n (pc := 5) 0 (mx_dd dd_X12_status 3 (5, .aload_n 0, 1) rfl) rfl rfl ?_
  refine mx_iconst (pc := 6) (v := (0 : Int32)) (mx_dd dd_X12_status 4 (6, .iconst 0, 1) rfl) (by decide) ?_
  obtain ⟨g2, P⟩ := P
  refine mx_cVI (pc := 7) (Y := mY_X12_statusOf) (As := [.int _]) mx_ml_X12_477 mx_y_X12_statusOf rfl g1 (by decide) rfl (by decide) rfl (mx_dd dd_X12_status 5 (7, .invokevirtual 477, 3) rfl) g2 (by decide) P (fun v1 h2 P => ?_)
  exact mx_ireturn (pc := 10) (mx_dd dd_X12_status 6 (10, .ireturn, 1) rfl) rfl rfl P
theorem b_X12_isStopped {d : Nat} {h : mxH} {Q : mxRes → mxH → Prop} (x0 : Nat)
    (P : hpK h x0 = 12 ∧ ∀ h1 : mxH, h1 = hsI h x0 0 (0 : Int32) → 1 ≤ d ∧ mx_SM mY_X12_isStoppedNow (d - 1) [.ref x0] h1 (mx_KI (fun v1 h2 => (v1 = 0 ∨ v1 = 1) ∧ Q (.inl (some (.int v1))) h2) (mx_XX mY_X12_isStopped Q))) : mx_SM mY_X12_isStopped d [.ref x0] h Q := by
  refine mx_SM_of (by decide) (Nat.le_of_ble_eq_true rfl) ?_
  show mx_SX mY_X12_isStopped d 0 [(0, .ref x0)] [] h Q
  refine mx_aload_n (pc := 0) 0 (mx_dd dd_X12_isStopped 0 (0, .aload_n 0, 1) rfl) rfl rfl ?_
  refine mx_iconst (pc := 1) (v := (0 : Int32)) (mx_dd dd_X12_isStopped 1 (1, .iconst 0, 1) rfl) (by decide) ?_
  obtain ⟨g1, P⟩ := P
  refine mx_putI (pc := 2) mx_fl_X12_3 g1 rfl (.inl rfl) rfl rfl (mx_dd dd_X12_isStopped 2 (2, .putfield 3, 3) rfl) ?_
  have P := P _ rfl
  refine mx_aload_n (pc := 5) 0 (mx_dd dd_X12_isStopped 3 (5, .aload_n 0, 1) rfl) rfl rfl ?_
  obtain ⟨g2, P⟩ := P
  refine mx_cVI (pc := 6) (Y := mY_X12_isStoppedNow) (As := []) mx_ml_X12_465 mx_y_X12_isStoppedNow rfl g1 (by decide) rfl (by decide) rfl (mx_dd dd_X12_isStopped 4 (6, .invokevirtual 465, 3) rfl) g2 (by decide) P (fun v1 h2 P => ?_)
  obtain ⟨g3, P⟩ := P
  exact mx_ireturn (pc := 9) (mx_dd dd_X12_isStopped 5 (9, .ireturn, 1) rfl) rfl (mx_nb g3).1 P
theorem b_X12_begun {d : Nat} {h : mxH} {Q : mxRes → mxH → Prop} (x0 : Nat)
    (P : hpK h x0 = 12 ∧ ∀ h1 : mxH, h1 = hsI h x0 0 (0 : Int32) → ∃ b1 : Nat, hpR h1 x0 73 = some b1 ∧ hpK h1 b1 = 14 ∧ vp_in (0 : Int32) (hpZ h1 b1) ∧ Q (.inl (some (.int (hpI h1 b1 (0 : Int32).toNatClampNeg)))) h1) : mx_SM mY_X12_begun d [.ref x0] h Q := by
  refine mx_SM_of (by decide) (Nat.le_of_ble_eq_true rfl) ?_
  show mx_SX mY_X12_begun d 0 [(0, .ref x0)] [] h Q
  refine mx_aload_n (pc := 0) 0 (mx_dd dd_X12_begun 0 (0, .aload_n 0, 1) rfl) rfl rfl ?_
  refine mx_iconst (pc := 1) (v := (0 : Int32)) (mx_dd dd_X12_begun 1 (1, .iconst 0, 1) rfl) (by decide) ?_
  obtain ⟨g1, P⟩ := P
  refine mx_putI (pc := 2) mx_fl_X12_3 g1 rfl (.inl rfl) rfl rfl (mx_dd dd_X12_begun 2 (2, .putfield 3, 3) rfl) ?_
  have P := P _ rfl
  refine mx_aload_n (pc := 5) 0 (mx_dd dd_X12_begun 3 (5, .aload_n 0, 1) rfl) rfl rfl ?_
  obtain ⟨b1, g2, P⟩ := P
  refine mx_getR (pc := 6) mx_fl_X12_413 g1 rfl g2 (mx_dd dd_X12_begun 4 (6, .getfield 413, 3) rfl) ?_
  refine mx_iconst (pc := 9) (v := (0 : Int32)) (mx_dd dd_X12_begun 5 (9, .iconst 0, 1) rfl) (by decide) ?_
  obtain ⟨g3, P⟩ := P
  obtain ⟨g4, P⟩ := P
  refine mx_iald (pc := 10) g3 g4 (mx_dd dd_X12_begun 6 (10, .iaload, 1) rfl) ?_
  exact mx_ireturn (pc := 11) (mx_dd dd_X12_begun 7 (11, .ireturn, 1) rfl) rfl rfl P
theorem b_X12_forks {d : Nat} {h : mxH} {Q : mxRes → mxH → Prop} (x0 : Nat)
    (P : hpK h x0 = 12 ∧ ∀ h1 : mxH, h1 = hsI h x0 0 (0 : Int32) → ∃ b1 : Nat, hpR h1 x0 73 = some b1 ∧ hpK h1 b1 = 14 ∧ vp_in (1 : Int32) (hpZ h1 b1) ∧ Q (.inl (some (.int (hpI h1 b1 (1 : Int32).toNatClampNeg)))) h1) : mx_SM mY_X12_forks d [.ref x0] h Q := by
  refine mx_SM_of (by decide) (Nat.le_of_ble_eq_true rfl) ?_
  show mx_SX mY_X12_forks d 0 [(0, .ref x0)] [] h Q
  refine mx_aload_n (pc := 0) 0 (mx_dd dd_X12_forks 0 (0, .aload_n 0, 1) rfl) rfl rfl ?_
  refine mx_iconst (pc := 1) (v := (0 : Int32)) (mx_dd dd_X12_forks 1 (1, .iconst 0, 1) rfl) (by decide) ?_
  obtain ⟨g1, P⟩ := P
  refine mx_putI (pc := 2) mx_fl_X12_3 g1 rfl (.inl rfl) rfl rfl (mx_dd dd_X12_forks 2 (2, .putfield 3, 3) rfl) ?_
  have P := P _ rfl
  refine mx_aload_n (pc := 5) 0 (mx_dd dd_X12_forks 3 (5, .aload_n 0, 1) rfl) rfl rfl ?_
  obtain ⟨b1, g2, P⟩ := P
  refine mx_getR (pc := 6) mx_fl_X12_413 g1 rfl g2 (mx_dd dd_X12_forks 4 (6, .getfield 413, 3) rfl) ?_
  refine mx_iconst (pc := 9) (v := (1 : Int32)) (mx_dd dd_X12_forks 5 (9, .iconst 1, 1) rfl) (by decide) ?_
  obtain ⟨g3, P⟩ := P
  obtain ⟨g4, P⟩ := P
  refine mx_iald (pc := 10) g3 g4 (mx_dd dd_X12_forks 6 (10, .iaload, 1) rfl) ?_
  exact mx_ireturn (pc := 11) (mx_dd dd_X12_forks 7 (11, .ireturn, 1) rfl) rfl rfl P
theorem b_X12_jobCount {d : Nat} {h : mxH} {Q : mxRes → mxH → Prop} (x0 : Nat)
    (P : hpK h x0 = 12 ∧ ∀ h1 : mxH, h1 = hsI h x0 0 (0 : Int32) → 1 ≤ d ∧ mx_SM mY_X12_of (d - 1) [.ref x0, .int (0 : Int32), .int (49 : Int32)] h1 (mx_KI (fun v1 h2 => Q (.inl (some (.int v1))) h2) (mx_XX mY_X12_jobCount Q))) : mx_SM mY_X12_jobCount d [.ref x0] h Q := by
  refine mx_SM_of (by decide) (Nat.le_of_ble_eq_true rfl) ?_
  show mx_SX mY_X12_jobCount d 0 [(0, .ref x0)] [] h Q
  refine mx_aload_n (pc := 0) 0 (mx_dd dd_X12_jobCount 0 (0, .aload_n 0, 1) rfl) rfl rfl ?_
  refine mx_iconst (pc := 1) (v := (0 : Int32)) (mx_dd dd_X12_jobCount 1 (1, .iconst 0, 1) rfl) (by decide) ?_
  obtain ⟨g1, P⟩ := P
  refine mx_putI (pc := 2) mx_fl_X12_3 g1 rfl (.inl rfl) rfl rfl (mx_dd dd_X12_jobCount 2 (2, .putfield 3, 3) rfl) ?_
  have P := P _ rfl
  refine mx_aload_n (pc := 5) 0 (mx_dd dd_X12_jobCount 3 (5, .aload_n 0, 1) rfl) rfl rfl ?_
  refine mx_iconst (pc := 6) (v := (0 : Int32)) (mx_dd dd_X12_jobCount 4 (6, .iconst 0, 1) rfl) (by decide) ?_
  refine mx_bipush (pc := 7) (v := (49 : Int32)) (mx_dd dd_X12_jobCount 5 (7, .bipush 49, 2) rfl) (by decide) ?_
  obtain ⟨g2, P⟩ := P
  refine mx_cVI (pc := 9) (Y := mY_X12_of) (As := [.int _, .int _]) mx_ml_X12_416 mx_y_X12_of rfl g1 (by decide) rfl (by decide) rfl (mx_dd dd_X12_jobCount 6 (9, .invokevirtual 416, 3) rfl) g2 (by decide) P (fun v1 h2 P => ?_)
  exact mx_ireturn (pc := 12) (mx_dd dd_X12_jobCount 7 (12, .ireturn, 1) rfl) rfl rfl P
theorem b_X12_jobStatus {d : Nat} {h : mxH} {Q : mxRes → mxH → Prop} (x0 : Nat) (x1 : Int32)
    (P : hpK h x0 = 12 ∧ ∀ h1 : mxH, h1 = hsI h x0 0 (0 : Int32) → 1 ≤ d ∧ mx_SM mY_X12_of (d - 1) [.ref x0, .int (0 : Int32), .int (49 : Int32)] h1 (mx_KI (fun v1 h2 => mx_SM mY_X12_in (d - 1) [.int x1, .int (1 : Int32), .int v1] h2 (mx_KI (fun v2 h3 => ((v2 = 0 → Q (.inl (some (.int (-1 : Int32)))) h3) ∧ (¬ v2 = 0 → hpK h3 x0 = 12 ∧ mx_SM mY_X12_of (d - 1) [.ref x0, .int (0 : Int32), .int (((50 : Int32) + ((4 : Int32) * x1)) - (4 : Int32))] h3 (mx_KI (fun v3 h4 => ((¬ v3 = (1 : Int32) → Q (.inl (some (.int (-1 : Int32)))) h4) ∧ (v3 = (1 : Int32) → hpK h4 x0 = 12 ∧ mx_SM mY_X12_of (d - 1) [.ref x0, .int (0 : Int32), .int (((50 : Int32) + ((4 : Int32) * x1)) - (3 : Int32))] h4 (mx_KI (fun v4 h5 => Q (.inl (some (.int v4))) h5) (mx_XX mY_X12_jobStatus Q))))) (mx_XX mY_X12_jobStatus Q))))) (mx_XX mY_X12_jobStatus Q))) (mx_XX mY_X12_jobStatus Q))) : mx_SM mY_X12_jobStatus d [.ref x0, .int x1] h Q := by
  refine mx_SM_of (by decide) (Nat.le_of_ble_eq_true rfl) ?_
  show mx_SX mY_X12_jobStatus d 0 [(0, .ref x0), (1, .int x1)] [] h Q
  refine mx_aload_n (pc := 0) 0 (mx_dd dd_X12_jobStatus 0 (0, .aload_n 0, 1) rfl) rfl rfl ?_
  refine mx_iconst (pc := 1) (v := (0 : Int32)) (mx_dd dd_X12_jobStatus 1 (1, .iconst 0, 1) rfl) (by decide) ?_
  obtain ⟨g1, P⟩ := P
  refine mx_putI (pc := 2) mx_fl_X12_3 g1 rfl (.inl rfl) rfl rfl (mx_dd dd_X12_jobStatus 2 (2, .putfield 3, 3) rfl) ?_
  have P := P _ rfl
  refine mx_iload_n (pc := 5) 1 (mx_dd dd_X12_jobStatus 3 (5, .iload_n 1, 1) rfl) rfl rfl ?_
  refine mx_iconst (pc := 6) (v := (1 : Int32)) (mx_dd dd_X12_jobStatus 4 (6, .iconst 1, 1) rfl) (by decide) ?_
  refine mx_aload_n (pc := 7) 0 (mx_dd dd_X12_jobStatus 5 (7, .aload_n 0, 1) rfl) rfl rfl ?_
  refine mx_iconst (pc := 8) (v := (0 : Int32)) (mx_dd dd_X12_jobStatus 6 (8, .iconst 0, 1) rfl) (by decide) ?_
  refine mx_bipush (pc := 9) (v := (49 : Int32)) (mx_dd dd_X12_jobStatus 7 (9, .bipush 49, 2) rfl) (by decide) ?_
  obtain ⟨g2, P⟩ := P
  refine mx_cVI (pc := 11) (Y := mY_X12_of) (As := [.int _, .int _]) mx_ml_X12_416 mx_y_X12_of rfl g1 (by decide) rfl (by simp [Value.category]) rfl (mx_dd dd_X12_jobStatus 8 (11, .invokevirtual 416, 3) rfl) g2 (by decide) P (fun v1 h2 P => ?_)
  refine mx_cSI (pc := 14) (Y := mY_X12_in) (As := [.int _, .int _, .int _]) mx_ml_X12_571 mx_y_X12_in rfl rfl (by decide) rfl (mx_dd dd_X12_jobStatus 9 (14, .invokestatic 571, 3) rfl) g2 (by decide) P (fun v2 h3 P => ?_)
  refine mx_if_eq (pc := 17) 53 (mx_dd dd_X12_jobStatus 10 (17, .ifCond .eq 36, 3) rfl) rfl (fun c17 => ?_) (fun c17 => ?_)
  · have P := P.1 c17
    refine mx_iconst (pc := 53) (v := (-1 : Int32)) (mx_dd dd_X12_jobStatus 34 (53, .iconst (-1), 1) rfl) (by decide) ?_
    exact mx_ireturn (pc := 54) (mx_dd dd_X12_jobStatus 35 (54, .ireturn, 1) rfl) rfl rfl P
  · have P := P.2 c17
    refine mx_aload_n (pc := 20) 0 (mx_dd dd_X12_jobStatus 11 (20, .aload_n 0, 1) rfl) rfl rfl ?_
    refine mx_iconst (pc := 21) (v := (0 : Int32)) (mx_dd dd_X12_jobStatus 12 (21, .iconst 0, 1) rfl) (by decide) ?_
    refine mx_bipush (pc := 22) (v := (50 : Int32)) (mx_dd dd_X12_jobStatus 13 (22, .bipush 50, 2) rfl) (by decide) ?_
    refine mx_iconst (pc := 24) (v := (4 : Int32)) (mx_dd dd_X12_jobStatus 14 (24, .iconst 4, 1) rfl) (by decide) ?_
    refine mx_iload_n (pc := 25) 1 (mx_dd dd_X12_jobStatus 15 (25, .iload_n 1, 1) rfl) rfl rfl ?_
    refine mx_imul (pc := 26) (mx_dd dd_X12_jobStatus 16 (26, .imul, 1) rfl) ?_
    refine mx_iadd (pc := 27) (mx_dd dd_X12_jobStatus 17 (27, .iadd, 1) rfl) ?_
    refine mx_iconst (pc := 28) (v := (4 : Int32)) (mx_dd dd_X12_jobStatus 18 (28, .iconst 4, 1) rfl) (by decide) ?_
    refine mx_isub (pc := 29) (mx_dd dd_X12_jobStatus 19 (29, .isub, 1) rfl) ?_
    obtain ⟨g3, P⟩ := P
    refine mx_cVI (pc := 30) (Y := mY_X12_of) (As := [.int _, .int _]) mx_ml_X12_416 mx_y_X12_of rfl g3 (by decide) rfl (by decide) rfl (mx_dd dd_X12_jobStatus 20 (30, .invokevirtual 416, 3) rfl) g2 (by decide) P (fun v3 h4 P => ?_)
    refine mx_iconst (pc := 33) (v := (1 : Int32)) (mx_dd dd_X12_jobStatus 21 (33, .iconst 1, 1) rfl) (by decide) ?_
    refine mx_icmp_ne (pc := 34) 53 (mx_dd dd_X12_jobStatus 22 (34, .if_icmp .ne 19, 3) rfl) rfl (fun c34 => ?_) (fun c34 => ?_)
    · have P := P.1 c34
      refine mx_iconst (pc := 53) (v := (-1 : Int32)) (mx_dd dd_X12_jobStatus 34 (53, .iconst (-1), 1) rfl) (by decide) ?_
      exact mx_ireturn (pc := 54) (mx_dd dd_X12_jobStatus 35 (54, .ireturn, 1) rfl) rfl rfl P
    · have P := P.2 c34
      refine mx_aload_n (pc := 37) 0 (mx_dd dd_X12_jobStatus 23 (37, .aload_n 0, 1) rfl) rfl rfl ?_
      refine mx_iconst (pc := 38) (v := (0 : Int32)) (mx_dd dd_X12_jobStatus 24 (38, .iconst 0, 1) rfl) (by decide) ?_
      refine mx_bipush (pc := 39) (v := (50 : Int32)) (mx_dd dd_X12_jobStatus 25 (39, .bipush 50, 2) rfl) (by decide) ?_
      refine mx_iconst (pc := 41) (v := (4 : Int32)) (mx_dd dd_X12_jobStatus 26 (41, .iconst 4, 1) rfl) (by decide) ?_
      refine mx_iload_n (pc := 42) 1 (mx_dd dd_X12_jobStatus 27 (42, .iload_n 1, 1) rfl) rfl rfl ?_
      refine mx_imul (pc := 43) (mx_dd dd_X12_jobStatus 28 (43, .imul, 1) rfl) ?_
      refine mx_iadd (pc := 44) (mx_dd dd_X12_jobStatus 29 (44, .iadd, 1) rfl) ?_
      refine mx_iconst (pc := 45) (v := (3 : Int32)) (mx_dd dd_X12_jobStatus 30 (45, .iconst 3, 1) rfl) (by decide) ?_
      refine mx_isub (pc := 46) (mx_dd dd_X12_jobStatus 31 (46, .isub, 1) rfl) ?_
      obtain ⟨g4, P⟩ := P
      refine mx_cVI (pc := 47) (Y := mY_X12_of) (As := [.int _, .int _]) mx_ml_X12_416 mx_y_X12_of rfl g4 (by decide) rfl (by decide) rfl (mx_dd dd_X12_jobStatus 32 (47, .invokevirtual 416, 3) rfl) g2 (by decide) P (fun v4 h5 P => ?_)
      refine mx_goto (pc := 50) 54 (mx_dd dd_X12_jobStatus 33 (50, .goto 4, 3) rfl) rfl ?_
      exact mx_ireturn (pc := 54) (mx_dd dd_X12_jobStatus 35 (54, .ireturn, 1) rfl) rfl rfl P
theorem b_X12_kindOf {d : Nat} {h : mxH} {Q : mxRes → mxH → Prop} (x0 : Nat) (x1 : Int32)
    (P : 1 ≤ d ∧ hpK h x0 = 12 ∧ mx_SM mY_X12_handle (d - 1) [.ref x0, .int (0 : Int32), .int x1] h (mx_KI (fun v1 h1 => ((¬ v1 = (-1 : Int32) → hpK h1 x0 = 12 ∧ ∃ b1 : Nat, hpR h1 x0 58 = some b1 ∧ mx_SM mY_X12_handle (d - 1) [.ref x0, .int (0 : Int32), .int x1] h1 (mx_KI (fun v2 h2 => hpK h2 b1 = 14 ∧ vp_in v2 (hpZ h2 b1) ∧ Q (.inl (some (.int (hpI h2 b1 v2.toNatClampNeg)))) h2) (mx_XX mY_X12_kindOf Q))) ∧ (v1 = (-1 : Int32) → Q (.inl (some (.int (0 : Int32)))) h1))) (mx_XX mY_X12_kindOf Q))) : mx_SM mY_X12_kindOf d [.ref x0, .int x1] h Q := by
  refine mx_SM_of (by decide) (Nat.le_of_ble_eq_true rfl) ?_
  show mx_SX mY_X12_kindOf d 0 [(0, .ref x0), (1, .int x1)] [] h Q
  refine mx_aload_n (pc := 0) 0 (mx_dd dd_X12_kindOf 0 (0, .aload_n 0, 1) rfl) rfl rfl ?_
  refine mx_iconst (pc := 1) (v := (0 : Int32)) (mx_dd dd_X12_kindOf 1 (1, .iconst 0, 1) rfl) (by decide) ?_
  refine mx_iload_n (pc := 2) 1 (mx_dd dd_X12_kindOf 2 (2, .iload_n 1, 1) rfl) rfl rfl ?_
  obtain ⟨g1, P⟩ := P
  obtain ⟨g2, P⟩ := P
  refine mx_cVI (pc := 3) (Y := mY_X12_handle) (As := [.int _, .int _]) mx_ml_X12_371 mx_y_X12_handle rfl g2 (by decide) rfl (by decide) rfl (mx_dd dd_X12_kindOf 3 (3, .invokevirtual 371, 3) rfl) g1 (by decide) P (fun v1 h1 P => ?_)
  refine mx_iconst (pc := 6) (v := (-1 : Int32)) (mx_dd dd_X12_kindOf 4 (6, .iconst (-1), 1) rfl) (by decide) ?_
  refine mx_icmp_ne (pc := 7) 14 (mx_dd dd_X12_kindOf 5 (7, .if_icmp .ne 7, 3) rfl) rfl (fun c7 => ?_) (fun c7 => ?_)
  · have P := P.1 c7
    refine mx_aload_n (pc := 14) 0 (mx_dd dd_X12_kindOf 8 (14, .aload_n 0, 1) rfl) rfl rfl ?_
    obtain ⟨g3, P⟩ := P
    obtain ⟨b1, g4, P⟩ := P
    refine mx_getR (pc := 15) mx_fl_X12_380 g3 rfl g4 (mx_dd dd_X12_kindOf 9 (15, .getfield 380, 3) rfl) ?_
    refine mx_aload_n (pc := 18) 0 (mx_dd dd_X12_kindOf 10 (18, .aload_n 0, 1) rfl) rfl rfl ?_
    refine mx_iconst (pc := 19) (v := (0 : Int32)) (mx_dd dd_X12_kindOf 11 (19, .iconst 0, 1) rfl) (by decide) ?_
    refine mx_iload_n (pc := 20) 1 (mx_dd dd_X12_kindOf 12 (20, .iload_n 1, 1) rfl) rfl rfl ?_
    refine mx_cVI (pc := 21) (Y := mY_X12_handle) (As := [.int _, .int _]) mx_ml_X12_371 mx_y_X12_handle rfl g3 (by decide) rfl (by simp [Value.category]) rfl (mx_dd dd_X12_kindOf 13 (21, .invokevirtual 371, 3) rfl) g1 (by decide) P (fun v2 h2 P => ?_)
    obtain ⟨g5, P⟩ := P
    obtain ⟨g6, P⟩ := P
    refine mx_iald (pc := 24) g5 g6 (mx_dd dd_X12_kindOf 14 (24, .iaload, 1) rfl) ?_
    exact mx_ireturn (pc := 25) (mx_dd dd_X12_kindOf 15 (25, .ireturn, 1) rfl) rfl rfl P
  · have P := P.2 c7
    refine mx_iconst (pc := 10) (v := (0 : Int32)) (mx_dd dd_X12_kindOf 6 (10, .iconst 0, 1) rfl) (by decide) ?_
    refine mx_goto (pc := 11) 25 (mx_dd dd_X12_kindOf 7 (11, .goto 14, 3) rfl) rfl ?_
    exact mx_ireturn (pc := 25) (mx_dd dd_X12_kindOf 15 (25, .ireturn, 1) rfl) rfl rfl P
theorem b_X12_handleKind {d : Nat} {h : mxH} {Q : mxRes → mxH → Prop} (x0 : Nat) (x1 : Int32)
    (P : hpK h x0 = 12 ∧ ∀ h1 : mxH, h1 = hsI h x0 0 (0 : Int32) → 1 ≤ d ∧ mx_SM mY_X12_in (d - 1) [.int x1, .int (0 : Int32), .int (9 : Int32)] h1 (mx_KI (fun v1 h2 => ((¬ v1 = 0 → hpK h2 x0 = 12 ∧ mx_SM mY_X12_throwsIf (d - 1) [.ref x0, .int (0 : Int32), .int (1 : Int32)] h2 (mx_KI (fun v2 h3 => ((v2 = 0 → hpK h3 x0 = 12 ∧ mx_SM mY_X12_kindOf (d - 1) [.ref x0, .int x1] h3 (mx_KI (fun v3 h4 => Q (.inl (some (.int v3))) h4) (mx_XX mY_X12_handleKind Q))) ∧ (¬ v2 = 0 → Q (.inl (some (.int (0 : Int32)))) h3))) (mx_XX mY_X12_handleKind Q))) ∧ (v1 = 0 → hpK h2 x0 = 12 ∧ mx_SM mY_X12_throwsIf (d - 1) [.ref x0, .int (1 : Int32), .int (1 : Int32)] h2 (mx_KI (fun v4 h5 => ((v4 = 0 → hpK h5 x0 = 12 ∧ mx_SM mY_X12_kindOf (d - 1) [.ref x0, .int x1] h5 (mx_KI (fun v5 h6 => Q (.inl (some (.int v5))) h6) (mx_XX mY_X12_handleKind Q))) ∧ (¬ v4 = 0 → Q (.inl (some (.int (0 : Int32)))) h5))) (mx_XX mY_X12_handleKind Q))))) (mx_XX mY_X12_handleKind Q))) : mx_SM mY_X12_handleKind d [.ref x0, .int x1] h Q := by
  refine mx_SM_of (by decide) (Nat.le_of_ble_eq_true rfl) ?_
  show mx_SX mY_X12_handleKind d 0 [(0, .ref x0), (1, .int x1)] [] h Q
  refine mx_aload_n (pc := 0) 0 (mx_dd dd_X12_handleKind 0 (0, .aload_n 0, 1) rfl) rfl rfl ?_
  refine mx_iconst (pc := 1) (v := (0 : Int32)) (mx_dd dd_X12_handleKind 1 (1, .iconst 0, 1) rfl) (by decide) ?_
  obtain ⟨g1, P⟩ := P
  refine mx_putI (pc := 2) mx_fl_X12_3 g1 rfl (.inl rfl) rfl rfl (mx_dd dd_X12_handleKind 2 (2, .putfield 3, 3) rfl) ?_
  have P := P _ rfl
  refine mx_aload_n (pc := 5) 0 (mx_dd dd_X12_handleKind 3 (5, .aload_n 0, 1) rfl) rfl rfl ?_
  refine mx_iload_n (pc := 6) 1 (mx_dd dd_X12_handleKind 4 (6, .iload_n 1, 1) rfl) rfl rfl ?_
  refine mx_iconst (pc := 7) (v := (0 : Int32)) (mx_dd dd_X12_handleKind 5 (7, .iconst 0, 1) rfl) (by decide) ?_
  refine mx_bipush (pc := 8) (v := (9 : Int32)) (mx_dd dd_X12_handleKind 6 (8, .bipush 9, 2) rfl) (by decide) ?_
  obtain ⟨g2, P⟩ := P
  refine mx_cSI (pc := 10) (Y := mY_X12_in) (As := [.int _, .int _, .int _]) mx_ml_X12_571 mx_y_X12_in rfl rfl (by simp [Value.category]) rfl (mx_dd dd_X12_handleKind 7 (10, .invokestatic 571, 3) rfl) g2 (by decide) P (fun v1 h2 P => ?_)
  refine mx_if_ne (pc := 13) 20 (mx_dd dd_X12_handleKind 8 (13, .ifCond .ne 7, 3) rfl) rfl (fun c13 => ?_) (fun c13 => ?_)
  · have P := P.1 c13
    refine mx_iconst (pc := 20) (v := (0 : Int32)) (mx_dd dd_X12_handleKind 11 (20, .iconst 0, 1) rfl) (by decide) ?_
    refine mx_iconst (pc := 21) (v := (1 : Int32)) (mx_dd dd_X12_handleKind 12 (21, .iconst 1, 1) rfl) (by decide) ?_
    obtain ⟨g3, P⟩ := P
    refine mx_cVI (pc := 22) (Y := mY_X12_throwsIf) (As := [.int _, .int _]) mx_ml_X12_274 mx_y_X12_throwsIf rfl g3 (by decide) rfl (by decide) rfl (mx_dd dd_X12_handleKind 13 (22, .invokevirtual 274, 3) rfl) g2 (by decide) P (fun v2 h3 P => ?_)
    refine mx_if_eq (pc := 25) 32 (mx_dd dd_X12_handleKind 14 (25, .ifCond .eq 7, 3) rfl) rfl (fun c25 => ?_) (fun c25 => ?_)
    · have P := P.1 c25
      refine mx_aload_n (pc := 32) 0 (mx_dd dd_X12_handleKind 17 (32, .aload_n 0, 1) rfl) rfl rfl ?_
      refine mx_iload_n (pc := 33) 1 (mx_dd dd_X12_handleKind 18 (33, .iload_n 1, 1) rfl) rfl rfl ?_
      obtain ⟨g4, P⟩ := P
      refine mx_cVI (pc := 34) (Y := mY_X12_kindOf) (As := [.int _]) mx_ml_X12_703 mx_y_X12_kindOf rfl g4 (by decide) rfl (by decide) rfl (mx_dd dd_X12_handleKind 19 (34, .invokevirtual 703, 3) rfl) g2 (by decide) P (fun v3 h4 P => ?_)
      exact mx_ireturn (pc := 37) (mx_dd dd_X12_handleKind 20 (37, .ireturn, 1) rfl) rfl rfl P
    · have P := P.2 c25
      refine mx_iconst (pc := 28) (v := (0 : Int32)) (mx_dd dd_X12_handleKind 15 (28, .iconst 0, 1) rfl) (by decide) ?_
      refine mx_goto (pc := 29) 37 (mx_dd dd_X12_handleKind 16 (29, .goto 8, 3) rfl) rfl ?_
      exact mx_ireturn (pc := 37) (mx_dd dd_X12_handleKind 20 (37, .ireturn, 1) rfl) rfl rfl P
  · have P := P.2 c13
    refine mx_iconst (pc := 16) (v := (1 : Int32)) (mx_dd dd_X12_handleKind 9 (16, .iconst 1, 1) rfl) (by decide) ?_
    refine mx_goto (pc := 17) 21 (mx_dd dd_X12_handleKind 10 (17, .goto 4, 3) rfl) rfl ?_
    refine mx_iconst (pc := 21) (v := (1 : Int32)) (mx_dd dd_X12_handleKind 12 (21, .iconst 1, 1) rfl) (by decide) ?_
    obtain ⟨g5, P⟩ := P
    refine mx_cVI (pc := 22) (Y := mY_X12_throwsIf) (As := [.int _, .int _]) mx_ml_X12_274 mx_y_X12_throwsIf rfl g5 (by decide) rfl (by decide) rfl (mx_dd dd_X12_handleKind 13 (22, .invokevirtual 274, 3) rfl) g2 (by decide) P (fun v4 h5 P => ?_)
    refine mx_if_eq (pc := 25) 32 (mx_dd dd_X12_handleKind 14 (25, .ifCond .eq 7, 3) rfl) rfl (fun c25 => ?_) (fun c25 => ?_)
    · have P := P.1 c25
      refine mx_aload_n (pc := 32) 0 (mx_dd dd_X12_handleKind 17 (32, .aload_n 0, 1) rfl) rfl rfl ?_
      refine mx_iload_n (pc := 33) 1 (mx_dd dd_X12_handleKind 18 (33, .iload_n 1, 1) rfl) rfl rfl ?_
      obtain ⟨g6, P⟩ := P
      refine mx_cVI (pc := 34) (Y := mY_X12_kindOf) (As := [.int _]) mx_ml_X12_703 mx_y_X12_kindOf rfl g6 (by decide) rfl (by decide) rfl (mx_dd dd_X12_handleKind 19 (34, .invokevirtual 703, 3) rfl) g2 (by decide) P (fun v5 h6 P => ?_)
      exact mx_ireturn (pc := 37) (mx_dd dd_X12_handleKind 20 (37, .ireturn, 1) rfl) rfl rfl P
    · have P := P.2 c25
      refine mx_iconst (pc := 28) (v := (0 : Int32)) (mx_dd dd_X12_handleKind 15 (28, .iconst 0, 1) rfl) (by decide) ?_
      refine mx_goto (pc := 29) 37 (mx_dd dd_X12_handleKind 16 (29, .goto 8, 3) rfl) rfl ?_
      exact mx_ireturn (pc := 37) (mx_dd dd_X12_handleKind 20 (37, .ireturn, 1) rfl) rfl rfl P
theorem b_X12_variableCount {d : Nat} {h : mxH} {Q : mxRes → mxH → Prop} (x0 : Nat)
    (P : hpK h x0 = 12 ∧ ∀ h1 : mxH, h1 = hsI h x0 0 (0 : Int32) → 1 ≤ d ∧ mx_SM mY_X12_of (d - 1) [.ref x0, .int (0 : Int32), .int (0 : Int32)] h1 (mx_KI (fun v1 h2 => Q (.inl (some (.int v1))) h2) (mx_XX mY_X12_variableCount Q))) : mx_SM mY_X12_variableCount d [.ref x0] h Q := by
  refine mx_SM_of (by decide) (Nat.le_of_ble_eq_true rfl) ?_
  show mx_SX mY_X12_variableCount d 0 [(0, .ref x0)] [] h Q
  refine mx_aload_n (pc := 0) 0 (mx_dd dd_X12_variableCount 0 (0, .aload_n 0, 1) rfl) rfl rfl ?_
  refine mx_iconst (pc := 1) (v := (0 : Int32)) (mx_dd dd_X12_variableCount 1 (1, .iconst 0, 1) rfl) (by decide) ?_
  obtain ⟨g1, P⟩ := P
  refine mx_putI (pc := 2) mx_fl_X12_3 g1 rfl (.inl rfl) rfl rfl (mx_dd dd_X12_variableCount 2 (2, .putfield 3, 3) rfl) ?_
  have P := P _ rfl
  refine mx_aload_n (pc := 5) 0 (mx_dd dd_X12_variableCount 3 (5, .aload_n 0, 1) rfl) rfl rfl ?_
  refine mx_iconst (pc := 6) (v := (0 : Int32)) (mx_dd dd_X12_variableCount 4 (6, .iconst 0, 1) rfl) (by decide) ?_
  refine mx_iconst (pc := 7) (v := (0 : Int32)) (mx_dd dd_X12_variableCount 5 (7, .iconst 0, 1) rfl) (by decide) ?_
  obtain ⟨g2, P⟩ := P
  refine mx_cVI (pc := 8) (Y := mY_X12_of) (As := [.int _, .int _]) mx_ml_X12_416 mx_y_X12_of rfl g1 (by decide) rfl (by decide) rfl (mx_dd dd_X12_variableCount 6 (8, .invokevirtual 416, 3) rfl) g2 (by decide) P (fun v1 h2 P => ?_)
  exact mx_ireturn (pc := 11) (mx_dd dd_X12_variableCount 7 (11, .ireturn, 1) rfl) rfl rfl P
theorem b_X12_isSet {d : Nat} {h : mxH} {Q : mxRes → mxH → Prop} (x0 : Nat) (x1 : Int64)
    (P : hpK h x0 = 12 ∧ ∀ h1 : mxH, h1 = hsI h x0 0 (0 : Int32) → 1 ≤ d ∧ mx_SM mY_X12_variableOf (d - 1) [.ref x0, .int (0 : Int32), .long x1] h1 (mx_KI (fun v1 h2 => ((v1 = (-1 : Int32) → Q (.inl (some (.int (0 : Int32)))) h2) ∧ (¬ v1 = (-1 : Int32) → Q (.inl (some (.int (1 : Int32)))) h2))) (mx_XX mY_X12_isSet Q))) : mx_SM mY_X12_isSet d [.ref x0, .long x1] h Q := by
  refine mx_SM_of (by decide) (Nat.le_of_ble_eq_true rfl) ?_
  show mx_SX mY_X12_isSet d 0 [(0, .ref x0), (1, .long x1)] [] h Q
  refine mx_aload_n (pc := 0) 0 (mx_dd dd_X12_isSet 0 (0, .aload_n 0, 1) rfl) rfl rfl ?_
  refine mx_iconst (pc := 1) (v := (0 : Int32)) (mx_dd dd_X12_isSet 1 (1, .iconst 0, 1) rfl) (by decide) ?_
  obtain ⟨g1, P⟩ := P
  refine mx_putI (pc := 2) mx_fl_X12_3 g1 rfl (.inl rfl) rfl rfl (mx_dd dd_X12_isSet 2 (2, .putfield 3, 3) rfl) ?_
  have P := P _ rfl
  refine mx_aload_n (pc := 5) 0 (mx_dd dd_X12_isSet 3 (5, .aload_n 0, 1) rfl) rfl rfl ?_
  refine mx_iconst (pc := 6) (v := (0 : Int32)) (mx_dd dd_X12_isSet 4 (6, .iconst 0, 1) rfl) (by decide) ?_
  refine mx_lload_n (pc := 7) 1 (mx_dd dd_X12_isSet 5 (7, .lload_n 1, 1) rfl) rfl rfl ?_
  obtain ⟨g2, P⟩ := P
  refine mx_cVI (pc := 8) (Y := mY_X12_variableOf) (As := [.int _, .long _]) mx_ml_X12_433 mx_y_X12_variableOf rfl g1 (by decide) rfl (by decide) rfl (mx_dd dd_X12_isSet 6 (8, .invokevirtual 433, 3) rfl) g2 (by decide) P (fun v1 h2 P => ?_)
  refine mx_iconst (pc := 11) (v := (-1 : Int32)) (mx_dd dd_X12_isSet 7 (11, .iconst (-1), 1) rfl) (by decide) ?_
  refine mx_icmp_eq (pc := 12) 19 (mx_dd dd_X12_isSet 8 (12, .if_icmp .eq 7, 3) rfl) rfl (fun c12 => ?_) (fun c12 => ?_)
  · have P := P.1 c12
    refine mx_iconst (pc := 19) (v := (0 : Int32)) (mx_dd dd_X12_isSet 11 (19, .iconst 0, 1) rfl) (by decide) ?_
    exact mx_ireturn (pc := 20) (mx_dd dd_X12_isSet 12 (20, .ireturn, 1) rfl) rfl rfl P
  · have P := P.2 c12
    refine mx_iconst (pc := 15) (v := (1 : Int32)) (mx_dd dd_X12_isSet 9 (15, .iconst 1, 1) rfl) (by decide) ?_
    refine mx_goto (pc := 16) 20 (mx_dd dd_X12_isSet 10 (16, .goto 4, 3) rfl) rfl ?_
    exact mx_ireturn (pc := 20) (mx_dd dd_X12_isSet 12 (20, .ireturn, 1) rfl) rfl rfl P
theorem b_X12_functionCount {d : Nat} {h : mxH} {Q : mxRes → mxH → Prop} (x0 : Nat)
    (P : hpK h x0 = 12 ∧ ∀ h1 : mxH, h1 = hsI h x0 0 (0 : Int32) → 1 ≤ d ∧ mx_SM mY_X12_of (d - 1) [.ref x0, .int (0 : Int32), .int (21 : Int32)] h1 (mx_KI (fun v1 h2 => Q (.inl (some (.int v1))) h2) (mx_XX mY_X12_functionCount Q))) : mx_SM mY_X12_functionCount d [.ref x0] h Q := by
  refine mx_SM_of (by decide) (Nat.le_of_ble_eq_true rfl) ?_
  show mx_SX mY_X12_functionCount d 0 [(0, .ref x0)] [] h Q
  refine mx_aload_n (pc := 0) 0 (mx_dd dd_X12_functionCount 0 (0, .aload_n 0, 1) rfl) rfl rfl ?_
  refine mx_iconst (pc := 1) (v := (0 : Int32)) (mx_dd dd_X12_functionCount 1 (1, .iconst 0, 1) rfl) (by decide) ?_
  obtain ⟨g1, P⟩ := P
  refine mx_putI (pc := 2) mx_fl_X12_3 g1 rfl (.inl rfl) rfl rfl (mx_dd dd_X12_functionCount 2 (2, .putfield 3, 3) rfl) ?_
  have P := P _ rfl
  refine mx_aload_n (pc := 5) 0 (mx_dd dd_X12_functionCount 3 (5, .aload_n 0, 1) rfl) rfl rfl ?_
  refine mx_iconst (pc := 6) (v := (0 : Int32)) (mx_dd dd_X12_functionCount 4 (6, .iconst 0, 1) rfl) (by decide) ?_
  refine mx_bipush (pc := 7) (v := (21 : Int32)) (mx_dd dd_X12_functionCount 5 (7, .bipush 21, 2) rfl) (by decide) ?_
  obtain ⟨g2, P⟩ := P
  refine mx_cVI (pc := 9) (Y := mY_X12_of) (As := [.int _, .int _]) mx_ml_X12_416 mx_y_X12_of rfl g1 (by decide) rfl (by decide) rfl (mx_dd dd_X12_functionCount 6 (9, .invokevirtual 416, 3) rfl) g2 (by decide) P (fun v1 h2 P => ?_)
  exact mx_ireturn (pc := 12) (mx_dd dd_X12_functionCount 7 (12, .ireturn, 1) rfl) rfl rfl P
theorem b_X12_isDefined {d : Nat} {h : mxH} {Q : mxRes → mxH → Prop} (x0 : Nat) (x1 : Int64)
    (P : hpK h x0 = 12 ∧ ∀ h1 : mxH, h1 = hsI h x0 0 (0 : Int32) → 1 ≤ d ∧ mx_SM mY_X12_functionOf (d - 1) [.ref x0, .int (0 : Int32), .long x1] h1 (mx_KI (fun v1 h2 => ((v1 = (-1 : Int32) → Q (.inl (some (.int (0 : Int32)))) h2) ∧ (¬ v1 = (-1 : Int32) → Q (.inl (some (.int (1 : Int32)))) h2))) (mx_XX mY_X12_isDefined Q))) : mx_SM mY_X12_isDefined d [.ref x0, .long x1] h Q := by
  refine mx_SM_of (by decide) (Nat.le_of_ble_eq_true rfl) ?_
  show mx_SX mY_X12_isDefined d 0 [(0, .ref x0), (1, .long x1)] [] h Q
  refine mx_aload_n (pc := 0) 0 (mx_dd dd_X12_isDefined 0 (0, .aload_n 0, 1) rfl) rfl rfl ?_
  refine mx_iconst (pc := 1) (v := (0 : Int32)) (mx_dd dd_X12_isDefined 1 (1, .iconst 0, 1) rfl) (by decide) ?_
  obtain ⟨g1, P⟩ := P
  refine mx_putI (pc := 2) mx_fl_X12_3 g1 rfl (.inl rfl) rfl rfl (mx_dd dd_X12_isDefined 2 (2, .putfield 3, 3) rfl) ?_
  have P := P _ rfl
  refine mx_aload_n (pc := 5) 0 (mx_dd dd_X12_isDefined 3 (5, .aload_n 0, 1) rfl) rfl rfl ?_
  refine mx_iconst (pc := 6) (v := (0 : Int32)) (mx_dd dd_X12_isDefined 4 (6, .iconst 0, 1) rfl) (by decide) ?_
  refine mx_lload_n (pc := 7) 1 (mx_dd dd_X12_isDefined 5 (7, .lload_n 1, 1) rfl) rfl rfl ?_
  obtain ⟨g2, P⟩ := P
  refine mx_cVI (pc := 8) (Y := mY_X12_functionOf) (As := [.int _, .long _]) mx_ml_X12_534 mx_y_X12_functionOf rfl g1 (by decide) rfl (by decide) rfl (mx_dd dd_X12_isDefined 6 (8, .invokevirtual 534, 3) rfl) g2 (by decide) P (fun v1 h2 P => ?_)
  refine mx_iconst (pc := 11) (v := (-1 : Int32)) (mx_dd dd_X12_isDefined 7 (11, .iconst (-1), 1) rfl) (by decide) ?_
  refine mx_icmp_eq (pc := 12) 19 (mx_dd dd_X12_isDefined 8 (12, .if_icmp .eq 7, 3) rfl) rfl (fun c12 => ?_) (fun c12 => ?_)
  · have P := P.1 c12
    refine mx_iconst (pc := 19) (v := (0 : Int32)) (mx_dd dd_X12_isDefined 11 (19, .iconst 0, 1) rfl) (by decide) ?_
    exact mx_ireturn (pc := 20) (mx_dd dd_X12_isDefined 12 (20, .ireturn, 1) rfl) rfl rfl P
  · have P := P.2 c12
    refine mx_iconst (pc := 15) (v := (1 : Int32)) (mx_dd dd_X12_isDefined 9 (15, .iconst 1, 1) rfl) (by decide) ?_
    refine mx_goto (pc := 16) 20 (mx_dd dd_X12_isDefined 10 (16, .goto 4, 3) rfl) rfl ?_
    exact mx_ireturn (pc := 20) (mx_dd dd_X12_isDefined 12 (20, .ireturn, 1) rfl) rfl rfl P
theorem b_X12_actionOf {d : Nat} {h : mxH} {Q : mxRes → mxH → Prop} (x0 : Nat) (x1 : Int32)
    (P : hpK h x0 = 12 ∧ ∀ h1 : mxH, h1 = hsI h x0 0 (0 : Int32) → 1 ≤ d ∧ mx_SM mY_X12_in (d - 1) [.int x1, .int (0 : Int32), .int (3 : Int32)] h1 (mx_KI (fun v1 h2 => ((¬ v1 = 0 → hpK h2 x0 = 12 ∧ mx_SM mY_X12_throwsIf (d - 1) [.ref x0, .int (0 : Int32), .int (1 : Int32)] h2 (mx_KI (fun v2 h3 => ((v2 = 0 → hpK h3 x0 = 12 ∧ mx_SM mY_X12_nameOf (d - 1) [.ref x0, .int (0 : Int32), .int ((30 : Int32) + x1)] h3 (mx_KL (fun v3 h4 => Q (.inl (some (.long v3))) h4) (mx_XX mY_X12_actionOf Q))) ∧ (¬ v2 = 0 → Q (.inl (some (.long (0 : Int64)))) h3))) (mx_XX mY_X12_actionOf Q))) ∧ (v1 = 0 → hpK h2 x0 = 12 ∧ mx_SM mY_X12_throwsIf (d - 1) [.ref x0, .int (1 : Int32), .int (1 : Int32)] h2 (mx_KI (fun v4 h5 => ((v4 = 0 → hpK h5 x0 = 12 ∧ mx_SM mY_X12_nameOf (d - 1) [.ref x0, .int (0 : Int32), .int ((30 : Int32) + x1)] h5 (mx_KL (fun v5 h6 => Q (.inl (some (.long v5))) h6) (mx_XX mY_X12_actionOf Q))) ∧ (¬ v4 = 0 → Q (.inl (some (.long (0 : Int64)))) h5))) (mx_XX mY_X12_actionOf Q))))) (mx_XX mY_X12_actionOf Q))) : mx_SM mY_X12_actionOf d [.ref x0, .int x1] h Q := by
  refine mx_SM_of (by decide) (Nat.le_of_ble_eq_true rfl) ?_
  show mx_SX mY_X12_actionOf d 0 [(0, .ref x0), (1, .int x1)] [] h Q
  refine mx_aload_n (pc := 0) 0 (mx_dd dd_X12_actionOf 0 (0, .aload_n 0, 1) rfl) rfl rfl ?_
  refine mx_iconst (pc := 1) (v := (0 : Int32)) (mx_dd dd_X12_actionOf 1 (1, .iconst 0, 1) rfl) (by decide) ?_
  obtain ⟨g1, P⟩ := P
  refine mx_putI (pc := 2) mx_fl_X12_3 g1 rfl (.inl rfl) rfl rfl (mx_dd dd_X12_actionOf 2 (2, .putfield 3, 3) rfl) ?_
  have P := P _ rfl
  refine mx_aload_n (pc := 5) 0 (mx_dd dd_X12_actionOf 3 (5, .aload_n 0, 1) rfl) rfl rfl ?_
  refine mx_iload_n (pc := 6) 1 (mx_dd dd_X12_actionOf 4 (6, .iload_n 1, 1) rfl) rfl rfl ?_
  refine mx_iconst (pc := 7) (v := (0 : Int32)) (mx_dd dd_X12_actionOf 5 (7, .iconst 0, 1) rfl) (by decide) ?_
  refine mx_iconst (pc := 8) (v := (3 : Int32)) (mx_dd dd_X12_actionOf 6 (8, .iconst 3, 1) rfl) (by decide) ?_
  obtain ⟨g2, P⟩ := P
  refine mx_cSI (pc := 9) (Y := mY_X12_in) (As := [.int _, .int _, .int _]) mx_ml_X12_571 mx_y_X12_in rfl rfl (by simp [Value.category]) rfl (mx_dd dd_X12_actionOf 7 (9, .invokestatic 571, 3) rfl) g2 (by decide) P (fun v1 h2 P => ?_)
  refine mx_if_ne (pc := 12) 19 (mx_dd dd_X12_actionOf 8 (12, .ifCond .ne 7, 3) rfl) rfl (fun c12 => ?_) (fun c12 => ?_)
  · have P := P.1 c12
    refine mx_iconst (pc := 19) (v := (0 : Int32)) (mx_dd dd_X12_actionOf 11 (19, .iconst 0, 1) rfl) (by decide) ?_
    refine mx_iconst (pc := 20) (v := (1 : Int32)) (mx_dd dd_X12_actionOf 12 (20, .iconst 1, 1) rfl) (by decide) ?_
    obtain ⟨g3, P⟩ := P
    refine mx_cVI (pc := 21) (Y := mY_X12_throwsIf) (As := [.int _, .int _]) mx_ml_X12_274 mx_y_X12_throwsIf rfl g3 (by decide) rfl (by decide) rfl (mx_dd dd_X12_actionOf 13 (21, .invokevirtual 274, 3) rfl) g2 (by decide) P (fun v2 h3 P => ?_)
    refine mx_if_eq (pc := 24) 31 (mx_dd dd_X12_actionOf 14 (24, .ifCond .eq 7, 3) rfl) rfl (fun c24 => ?_) (fun c24 => ?_)
    · have P := P.1 c24
      refine mx_aload_n (pc := 31) 0 (mx_dd dd_X12_actionOf 17 (31, .aload_n 0, 1) rfl) rfl rfl ?_
      refine mx_iconst (pc := 32) (v := (0 : Int32)) (mx_dd dd_X12_actionOf 18 (32, .iconst 0, 1) rfl) (by decide) ?_
      refine mx_bipush (pc := 33) (v := (30 : Int32)) (mx_dd dd_X12_actionOf 19 (33, .bipush 30, 2) rfl) (by decide) ?_
      refine mx_iload_n (pc := 35) 1 (mx_dd dd_X12_actionOf 20 (35, .iload_n 1, 1) rfl) rfl rfl ?_
      refine mx_iadd (pc := 36) (mx_dd dd_X12_actionOf 21 (36, .iadd, 1) rfl) ?_
      obtain ⟨g4, P⟩ := P
      refine mx_cVL (pc := 37) (Y := mY_X12_nameOf) (As := [.int _, .int _]) mx_ml_X12_423 mx_y_X12_nameOf rfl g4 (by decide) rfl (by decide) rfl (mx_dd dd_X12_actionOf 22 (37, .invokevirtual 423, 3) rfl) g2 (by decide) P (fun v3 h4 P => ?_)
      exact mx_lreturn (pc := 40) (mx_dd dd_X12_actionOf 23 (40, .lreturn, 1) rfl) rfl P
    · have P := P.2 c24
      refine mx_lconst (pc := 27) (v := (0 : Int64)) (mx_dd dd_X12_actionOf 15 (27, .lconst 0, 1) rfl) (by decide) ?_
      refine mx_goto (pc := 28) 40 (mx_dd dd_X12_actionOf 16 (28, .goto 12, 3) rfl) rfl ?_
      exact mx_lreturn (pc := 40) (mx_dd dd_X12_actionOf 23 (40, .lreturn, 1) rfl) rfl P
  · have P := P.2 c12
    refine mx_iconst (pc := 15) (v := (1 : Int32)) (mx_dd dd_X12_actionOf 9 (15, .iconst 1, 1) rfl) (by decide) ?_
    refine mx_goto (pc := 16) 20 (mx_dd dd_X12_actionOf 10 (16, .goto 4, 3) rfl) rfl ?_
    refine mx_iconst (pc := 20) (v := (1 : Int32)) (mx_dd dd_X12_actionOf 12 (20, .iconst 1, 1) rfl) (by decide) ?_
    obtain ⟨g5, P⟩ := P
    refine mx_cVI (pc := 21) (Y := mY_X12_throwsIf) (As := [.int _, .int _]) mx_ml_X12_274 mx_y_X12_throwsIf rfl g5 (by decide) rfl (by decide) rfl (mx_dd dd_X12_actionOf 13 (21, .invokevirtual 274, 3) rfl) g2 (by decide) P (fun v4 h5 P => ?_)
    refine mx_if_eq (pc := 24) 31 (mx_dd dd_X12_actionOf 14 (24, .ifCond .eq 7, 3) rfl) rfl (fun c24 => ?_) (fun c24 => ?_)
    · have P := P.1 c24
      refine mx_aload_n (pc := 31) 0 (mx_dd dd_X12_actionOf 17 (31, .aload_n 0, 1) rfl) rfl rfl ?_
      refine mx_iconst (pc := 32) (v := (0 : Int32)) (mx_dd dd_X12_actionOf 18 (32, .iconst 0, 1) rfl) (by decide) ?_
      refine mx_bipush (pc := 33) (v := (30 : Int32)) (mx_dd dd_X12_actionOf 19 (33, .bipush 30, 2) rfl) (by decide) ?_
      refine mx_iload_n (pc := 35) 1 (mx_dd dd_X12_actionOf 20 (35, .iload_n 1, 1) rfl) rfl rfl ?_
      refine mx_iadd (pc := 36) (mx_dd dd_X12_actionOf 21 (36, .iadd, 1) rfl) ?_
      obtain ⟨g6, P⟩ := P
      refine mx_cVL (pc := 37) (Y := mY_X12_nameOf) (As := [.int _, .int _]) mx_ml_X12_423 mx_y_X12_nameOf rfl g6 (by decide) rfl (by decide) rfl (mx_dd dd_X12_actionOf 22 (37, .invokevirtual 423, 3) rfl) g2 (by decide) P (fun v5 h6 P => ?_)
      exact mx_lreturn (pc := 40) (mx_dd dd_X12_actionOf 23 (40, .lreturn, 1) rfl) rfl P
    · have P := P.2 c24
      refine mx_lconst (pc := 27) (v := (0 : Int64)) (mx_dd dd_X12_actionOf 15 (27, .lconst 0, 1) rfl) (by decide) ?_
      refine mx_goto (pc := 28) 40 (mx_dd dd_X12_actionOf 16 (28, .goto 12, 3) rfl) rfl ?_
      exact mx_lreturn (pc := 40) (mx_dd dd_X12_actionOf 23 (40, .lreturn, 1) rfl) rfl P
theorem b_X12_isPipefail {d : Nat} {h : mxH} {Q : mxRes → mxH → Prop} (x0 : Nat)
    (P : hpK h x0 = 12 ∧ ∀ h1 : mxH, h1 = hsI h x0 0 (0 : Int32) → 1 ≤ d ∧ mx_SM mY_X12_of (d - 1) [.ref x0, .int (0 : Int32), .int (32 : Int32)] h1 (mx_KI (fun v1 h2 => ((¬ v1 = (1 : Int32) → Q (.inl (some (.int (0 : Int32)))) h2) ∧ (v1 = (1 : Int32) → Q (.inl (some (.int (1 : Int32)))) h2))) (mx_XX mY_X12_isPipefail Q))) : mx_SM mY_X12_isPipefail d [.ref x0] h Q := by
  refine mx_SM_of (by decide) (Nat.le_of_ble_eq_true rfl) ?_
  show mx_SX mY_X12_isPipefail d 0 [(0, .ref x0)] [] h Q
  refine mx_aload_n (pc := 0) 0 (mx_dd dd_X12_isPipefail 0 (0, .aload_n 0, 1) rfl) rfl rfl ?_
  refine mx_iconst (pc := 1) (v := (0 : Int32)) (mx_dd dd_X12_isPipefail 1 (1, .iconst 0, 1) rfl) (by decide) ?_
  obtain ⟨g1, P⟩ := P
  refine mx_putI (pc := 2) mx_fl_X12_3 g1 rfl (.inl rfl) rfl rfl (mx_dd dd_X12_isPipefail 2 (2, .putfield 3, 3) rfl) ?_
  have P := P _ rfl
  refine mx_aload_n (pc := 5) 0 (mx_dd dd_X12_isPipefail 3 (5, .aload_n 0, 1) rfl) rfl rfl ?_
  refine mx_iconst (pc := 6) (v := (0 : Int32)) (mx_dd dd_X12_isPipefail 4 (6, .iconst 0, 1) rfl) (by decide) ?_
  refine mx_bipush (pc := 7) (v := (32 : Int32)) (mx_dd dd_X12_isPipefail 5 (7, .bipush 32, 2) rfl) (by decide) ?_
  obtain ⟨g2, P⟩ := P
  refine mx_cVI (pc := 9) (Y := mY_X12_of) (As := [.int _, .int _]) mx_ml_X12_416 mx_y_X12_of rfl g1 (by decide) rfl (by decide) rfl (mx_dd dd_X12_isPipefail 6 (9, .invokevirtual 416, 3) rfl) g2 (by decide) P (fun v1 h2 P => ?_)
  refine mx_iconst (pc := 12) (v := (1 : Int32)) (mx_dd dd_X12_isPipefail 7 (12, .iconst 1, 1) rfl) (by decide) ?_
  refine mx_icmp_ne (pc := 13) 20 (mx_dd dd_X12_isPipefail 8 (13, .if_icmp .ne 7, 3) rfl) rfl (fun c13 => ?_) (fun c13 => ?_)
  · have P := P.1 c13
    refine mx_iconst (pc := 20) (v := (0 : Int32)) (mx_dd dd_X12_isPipefail 11 (20, .iconst 0, 1) rfl) (by decide) ?_
    exact mx_ireturn (pc := 21) (mx_dd dd_X12_isPipefail 12 (21, .ireturn, 1) rfl) rfl rfl P
  · have P := P.2 c13
    refine mx_iconst (pc := 16) (v := (1 : Int32)) (mx_dd dd_X12_isPipefail 9 (16, .iconst 1, 1) rfl) (by decide) ?_
    refine mx_goto (pc := 17) 21 (mx_dd dd_X12_isPipefail 10 (17, .goto 4, 3) rfl) rfl ?_
    exact mx_ireturn (pc := 21) (mx_dd dd_X12_isPipefail 12 (21, .ireturn, 1) rfl) rfl rfl P
theorem b_X12_fileCount {d : Nat} {h : mxH} {Q : mxRes → mxH → Prop} (x0 : Nat)
    (P : hpK h x0 = 12 ∧ ∀ h1 : mxH, h1 = hsI h x0 0 (0 : Int32) → ∃ b1 : Nat, hpR h1 x0 56 = some b1 ∧ hpK h1 b1 = 14 ∧ vp_in (0 : Int32) (hpZ h1 b1) ∧ Q (.inl (some (.int (hpI h1 b1 (0 : Int32).toNatClampNeg)))) h1) : mx_SM mY_X12_fileCount d [.ref x0] h Q := by
  refine mx_SM_of (by decide) (Nat.le_of_ble_eq_true rfl) ?_
  show mx_SX mY_X12_fileCount d 0 [(0, .ref x0)] [] h Q
  refine mx_aload_n (pc := 0) 0 (mx_dd dd_X12_fileCount 0 (0, .aload_n 0, 1) rfl) rfl rfl ?_
  refine mx_iconst (pc := 1) (v := (0 : Int32)) (mx_dd dd_X12_fileCount 1 (1, .iconst 0, 1) rfl) (by decide) ?_
  obtain ⟨g1, P⟩ := P
  refine mx_putI (pc := 2) mx_fl_X12_3 g1 rfl (.inl rfl) rfl rfl (mx_dd dd_X12_fileCount 2 (2, .putfield 3, 3) rfl) ?_
  have P := P _ rfl
  refine mx_aload_n (pc := 5) 0 (mx_dd dd_X12_fileCount 3 (5, .aload_n 0, 1) rfl) rfl rfl ?_
  obtain ⟨b1, g2, P⟩ := P
  refine mx_getR (pc := 6) mx_fl_X12_312 g1 rfl g2 (mx_dd dd_X12_fileCount 4 (6, .getfield 312, 3) rfl) ?_
  refine mx_iconst (pc := 9) (v := (0 : Int32)) (mx_dd dd_X12_fileCount 5 (9, .iconst 0, 1) rfl) (by decide) ?_
  obtain ⟨g3, P⟩ := P
  obtain ⟨g4, P⟩ := P
  refine mx_iald (pc := 10) g3 g4 (mx_dd dd_X12_fileCount 6 (10, .iaload, 1) rfl) ?_
  exact mx_ireturn (pc := 11) (mx_dd dd_X12_fileCount 7 (11, .ireturn, 1) rfl) rfl rfl P
theorem b_X12_fileNamed {d : Nat} {h : mxH} {Q : mxRes → mxH → Prop} (x0 : Nat) (x1 : Int64)
    (P : hpK h x0 = 12 ∧ ∀ h1 : mxH, h1 = hsI h x0 0 (0 : Int32) → 1 ≤ d ∧ mx_SM mY_X12_fileOf (d - 1) [.ref x0, .long x1] h1 (mx_KI (fun v1 h2 => Q (.inl (some (.int v1))) h2) (mx_XX mY_X12_fileNamed Q))) : mx_SM mY_X12_fileNamed d [.ref x0, .long x1] h Q := by
  refine mx_SM_of (by decide) (Nat.le_of_ble_eq_true rfl) ?_
  show mx_SX mY_X12_fileNamed d 0 [(0, .ref x0), (1, .long x1)] [] h Q
  refine mx_aload_n (pc := 0) 0 (mx_dd dd_X12_fileNamed 0 (0, .aload_n 0, 1) rfl) rfl rfl ?_
  refine mx_iconst (pc := 1) (v := (0 : Int32)) (mx_dd dd_X12_fileNamed 1 (1, .iconst 0, 1) rfl) (by decide) ?_
  obtain ⟨g1, P⟩ := P
  refine mx_putI (pc := 2) mx_fl_X12_3 g1 rfl (.inl rfl) rfl rfl (mx_dd dd_X12_fileNamed 2 (2, .putfield 3, 3) rfl) ?_
  have P := P _ rfl
  refine mx_aload_n (pc := 5) 0 (mx_dd dd_X12_fileNamed 3 (5, .aload_n 0, 1) rfl) rfl rfl ?_
  refine mx_lload_n (pc := 6) 1 (mx_dd dd_X12_fileNamed 4 (6, .lload_n 1, 1) rfl) rfl rfl ?_
  obtain ⟨g2, P⟩ := P
  refine mx_cVI (pc := 7) (Y := mY_X12_fileOf) (As := [.long _]) mx_ml_X12_364 mx_y_X12_fileOf rfl g1 (by decide) rfl (by decide) rfl (mx_dd dd_X12_fileNamed 5 (7, .invokevirtual 364, 3) rfl) g2 (by decide) P (fun v1 h2 P => ?_)
  exact mx_ireturn (pc := 10) (mx_dd dd_X12_fileNamed 6 (10, .ireturn, 1) rfl) rfl rfl P
theorem b_X12_noFile {d : Nat} {h : mxH} {Q : mxRes → mxH → Prop} (x0 : Nat) (x1 : Int32)
    (P : hpK h x0 = 12 ∧ ∃ b1 : Nat, hpR h x0 56 = some b1 ∧ hpK h b1 = 14 ∧ vp_in (0 : Int32) (hpZ h b1) ∧ 1 ≤ d ∧ mx_SM mY_X12_in (d - 1) [.int x1, .int (0 : Int32), .int ((hpI h b1 (0 : Int32).toNatClampNeg) - (1 : Int32))] h (mx_KI (fun v1 h1 => ((¬ v1 = 0 → hpK h1 x0 = 12 ∧ mx_SM mY_X12_throwsIf (d - 1) [.ref x0, .int (0 : Int32), .int (1 : Int32)] h1 (mx_KI (fun v2 h2 => (v2 = 0 ∨ v2 = 1) ∧ Q (.inl (some (.int v2))) h2) (mx_XX mY_X12_noFile Q))) ∧ (v1 = 0 → hpK h1 x0 = 12 ∧ mx_SM mY_X12_throwsIf (d - 1) [.ref x0, .int (1 : Int32), .int (1 : Int32)] h1 (mx_KI (fun v3 h3 => (v3 = 0 ∨ v3 = 1) ∧ Q (.inl (some (.int v3))) h3) (mx_XX mY_X12_noFile Q))))) (mx_XX mY_X12_noFile Q))) : mx_SM mY_X12_noFile d [.ref x0, .int x1] h Q := by
  refine mx_SM_of (by decide) (Nat.le_of_ble_eq_true rfl) ?_
  show mx_SX mY_X12_noFile d 0 [(0, .ref x0), (1, .int x1)] [] h Q
  refine mx_aload_n (pc := 0) 0 (mx_dd dd_X12_noFile 0 (0, .aload_n 0, 1) rfl) rfl rfl ?_
  refine mx_iload_n (pc := 1) 1 (mx_dd dd_X12_noFile 1 (1, .iload_n 1, 1) rfl) rfl rfl ?_
  refine mx_iconst (pc := 2) (v := (0 : Int32)) (mx_dd dd_X12_noFile 2 (2, .iconst 0, 1) rfl) (by decide) ?_
  refine mx_aload_n (pc := 3) 0 (mx_dd dd_X12_noFile 3 (3, .aload_n 0, 1) rfl) rfl rfl ?_
  obtain ⟨g1, P⟩ := P
  obtain ⟨b1, g2, P⟩ := P
  refine mx_getR (pc := 4) mx_fl_X12_312 g1 rfl g2 (mx_dd dd_X12_noFile 4 (4, .getfield 312, 3) rfl) ?_
  refine mx_iconst (pc := 7) (v := (0 : Int32)) (mx_dd dd_X12_noFile 5 (7, .iconst 0, 1) rfl) (by decide) ?_
  obtain ⟨g3, P⟩ := P
  obtain ⟨g4, P⟩ := P
  refine mx_iald (pc := 8) g3 g4 (mx_dd dd_X12_noFile 6 (8, .iaload, 1) rfl) ?_
  refine mx_iconst (pc := 9) (v := (1 : Int32)) (mx_dd dd_X12_noFile 7 (9, .iconst 1, 1) rfl) (by decide) ?_
  refine mx_isub (pc := 10) (mx_dd dd_X12_noFile 8 (10, .isub, 1) rfl) ?_
  obtain ⟨g5, P⟩ := P
  refine mx_cSI (pc := 11) (Y := mY_X12_in) (As := [.int _, .int _, .int _]) mx_ml_X12_571 mx_y_X12_in rfl rfl (by simp [Value.category]) rfl (mx_dd dd_X12_noFile 9 (11, .invokestatic 571, 3) rfl) g5 (by decide) P (fun v1 h1 P => ?_)
  refine mx_if_ne (pc := 14) 21 (mx_dd dd_X12_noFile 10 (14, .ifCond .ne 7, 3) rfl) rfl (fun c14 => ?_) (fun c14 => ?_)
  · have P := P.1 c14
    refine mx_iconst (pc := 21) (v := (0 : Int32)) (mx_dd dd_X12_noFile 13 (21, .iconst 0, 1) rfl) (by decide) ?_
    refine mx_iconst (pc := 22) (v := (1 : Int32)) (mx_dd dd_X12_noFile 14 (22, .iconst 1, 1) rfl) (by decide) ?_
    obtain ⟨g6, P⟩ := P
    refine mx_cVI (pc := 23) (Y := mY_X12_throwsIf) (As := [.int _, .int _]) mx_ml_X12_274 mx_y_X12_throwsIf rfl g6 (by decide) rfl (by decide) rfl (mx_dd dd_X12_noFile 15 (23, .invokevirtual 274, 3) rfl) g5 (by decide) P (fun v2 h2 P => ?_)
    obtain ⟨g7, P⟩ := P
    exact mx_ireturn (pc := 26) (mx_dd dd_X12_noFile 16 (26, .ireturn, 1) rfl) rfl (mx_nb g7).1 P
  · have P := P.2 c14
    refine mx_iconst (pc := 17) (v := (1 : Int32)) (mx_dd dd_X12_noFile 11 (17, .iconst 1, 1) rfl) (by decide) ?_
    refine mx_goto (pc := 18) 22 (mx_dd dd_X12_noFile 12 (18, .goto 4, 3) rfl) rfl ?_
    refine mx_iconst (pc := 22) (v := (1 : Int32)) (mx_dd dd_X12_noFile 14 (22, .iconst 1, 1) rfl) (by decide) ?_
    obtain ⟨g8, P⟩ := P
    refine mx_cVI (pc := 23) (Y := mY_X12_throwsIf) (As := [.int _, .int _]) mx_ml_X12_274 mx_y_X12_throwsIf rfl g8 (by decide) rfl (by decide) rfl (mx_dd dd_X12_noFile 15 (23, .invokevirtual 274, 3) rfl) g5 (by decide) P (fun v3 h3 P => ?_)
    obtain ⟨g9, P⟩ := P
    exact mx_ireturn (pc := 26) (mx_dd dd_X12_noFile 16 (26, .ireturn, 1) rfl) rfl (mx_nb g9).1 P
theorem b_X12_lineCount {d : Nat} {h : mxH} {Q : mxRes → mxH → Prop} (x0 : Nat) (x1 : Int32)
    (P : hpK h x0 = 12 ∧ ∀ h1 : mxH, h1 = hsI h x0 0 (0 : Int32) → 1 ≤ d ∧ mx_SM mY_X12_noFile (d - 1) [.ref x0, .int x1] h1 (mx_KI (fun v1 h2 => ((v1 = 0 → hpK h2 x0 = 12 ∧ mx_SM mY_X12_linesOf (d - 1) [.ref x0, .int x1] h2 (mx_KI (fun v2 h3 => Q (.inl (some (.int v2))) h3) (mx_XX mY_X12_lineCount Q))) ∧ (¬ v1 = 0 → Q (.inl (some (.int (0 : Int32)))) h2))) (mx_XX mY_X12_lineCount Q))) : mx_SM mY_X12_lineCount d [.ref x0, .int x1] h Q := by
  refine mx_SM_of (by decide) (Nat.le_of_ble_eq_true rfl) ?_
  show mx_SX mY_X12_lineCount d 0 [(0, .ref x0), (1, .int x1)] [] h Q
  refine mx_aload_n (pc := 0) 0 (mx_dd dd_X12_lineCount 0 (0, .aload_n 0, 1) rfl) rfl rfl ?_
  refine mx_iconst (pc := 1) (v := (0 : Int32)) (mx_dd dd_X12_lineCount 1 (1, .iconst 0, 1) rfl) (by decide) ?_
  obtain ⟨g1, P⟩ := P
  refine mx_putI (pc := 2) mx_fl_X12_3 g1 rfl (.inl rfl) rfl rfl (mx_dd dd_X12_lineCount 2 (2, .putfield 3, 3) rfl) ?_
  have P := P _ rfl
  refine mx_aload_n (pc := 5) 0 (mx_dd dd_X12_lineCount 3 (5, .aload_n 0, 1) rfl) rfl rfl ?_
  refine mx_iload_n (pc := 6) 1 (mx_dd dd_X12_lineCount 4 (6, .iload_n 1, 1) rfl) rfl rfl ?_
  obtain ⟨g2, P⟩ := P
  refine mx_cVI (pc := 7) (Y := mY_X12_noFile) (As := [.int _]) mx_ml_X12_706 mx_y_X12_noFile rfl g1 (by decide) rfl (by decide) rfl (mx_dd dd_X12_lineCount 5 (7, .invokevirtual 706, 3) rfl) g2 (by decide) P (fun v1 h2 P => ?_)
  refine mx_if_eq (pc := 10) 17 (mx_dd dd_X12_lineCount 6 (10, .ifCond .eq 7, 3) rfl) rfl (fun c10 => ?_) (fun c10 => ?_)
  · have P := P.1 c10
    refine mx_aload_n (pc := 17) 0 (mx_dd dd_X12_lineCount 9 (17, .aload_n 0, 1) rfl) rfl rfl ?_
    refine mx_iload_n (pc := 18) 1 (mx_dd dd_X12_lineCount 10 (18, .iload_n 1, 1) rfl) rfl rfl ?_
    obtain ⟨g3, P⟩ := P
    refine mx_cVI (pc := 19) (Y := mY_X12_linesOf) (As := [.int _]) mx_ml_X12_443 mx_y_X12_linesOf rfl g3 (by decide) rfl (by decide) rfl (mx_dd dd_X12_lineCount 11 (19, .invokevirtual 443, 3) rfl) g2 (by decide) P (fun v2 h3 P => ?_)
    exact mx_ireturn (pc := 22) (mx_dd dd_X12_lineCount 12 (22, .ireturn, 1) rfl) rfl rfl P
  · have P := P.2 c10
    refine mx_iconst (pc := 13) (v := (0 : Int32)) (mx_dd dd_X12_lineCount 7 (13, .iconst 0, 1) rfl) (by decide) ?_
    refine mx_goto (pc := 14) 22 (mx_dd dd_X12_lineCount 8 (14, .goto 8, 3) rfl) rfl ?_
    exact mx_ireturn (pc := 22) (mx_dd dd_X12_lineCount 12 (22, .ireturn, 1) rfl) rfl rfl P
theorem b_X12_outputCount {d : Nat} {h : mxH} {Q : mxRes → mxH → Prop} (x0 : Nat)
    (P : hpK h x0 = 12 ∧ ∀ h1 : mxH, h1 = hsI h x0 0 (0 : Int32) → ∃ b1 : Nat, hpR h1 x0 56 = some b1 ∧ hpK h1 b1 = 14 ∧ vp_in (370 : Int32) (hpZ h1 b1) ∧ Q (.inl (some (.int (hpI h1 b1 (370 : Int32).toNatClampNeg)))) h1) : mx_SM mY_X12_outputCount d [.ref x0] h Q := by
  refine mx_SM_of (by decide) (Nat.le_of_ble_eq_true rfl) ?_
  show mx_SX mY_X12_outputCount d 0 [(0, .ref x0)] [] h Q
  refine mx_aload_n (pc := 0) 0 (mx_dd dd_X12_outputCount 0 (0, .aload_n 0, 1) rfl) rfl rfl ?_
  refine mx_iconst (pc := 1) (v := (0 : Int32)) (mx_dd dd_X12_outputCount 1 (1, .iconst 0, 1) rfl) (by decide) ?_
  obtain ⟨g1, P⟩ := P
  refine mx_putI (pc := 2) mx_fl_X12_3 g1 rfl (.inl rfl) rfl rfl (mx_dd dd_X12_outputCount 2 (2, .putfield 3, 3) rfl) ?_
  have P := P _ rfl
  refine mx_aload_n (pc := 5) 0 (mx_dd dd_X12_outputCount 3 (5, .aload_n 0, 1) rfl) rfl rfl ?_
  obtain ⟨b1, g2, P⟩ := P
  refine mx_getR (pc := 6) mx_fl_X12_312 g1 rfl g2 (mx_dd dd_X12_outputCount 4 (6, .getfield 312, 3) rfl) ?_
  refine mx_sipush (pc := 9) (v := (370 : Int32)) (mx_dd dd_X12_outputCount 5 (9, .sipush 370, 3) rfl) (by decide) ?_
  obtain ⟨g3, P⟩ := P
  obtain ⟨g4, P⟩ := P
  refine mx_iald (pc := 12) g3 g4 (mx_dd dd_X12_outputCount 6 (12, .iaload, 1) rfl) ?_
  exact mx_ireturn (pc := 13) (mx_dd dd_X12_outputCount 7 (13, .ireturn, 1) rfl) rfl rfl P
theorem b_X12_inputCount {d : Nat} {h : mxH} {Q : mxRes → mxH → Prop} (x0 : Nat)
    (P : hpK h x0 = 12 ∧ ∀ h1 : mxH, h1 = hsI h x0 0 (0 : Int32) → ∃ b1 : Nat, hpR h1 x0 56 = some b1 ∧ hpK h1 b1 = 14 ∧ vp_in (329 : Int32) (hpZ h1 b1) ∧ Q (.inl (some (.int (hpI h1 b1 (329 : Int32).toNatClampNeg)))) h1) : mx_SM mY_X12_inputCount d [.ref x0] h Q := by
  refine mx_SM_of (by decide) (Nat.le_of_ble_eq_true rfl) ?_
  show mx_SX mY_X12_inputCount d 0 [(0, .ref x0)] [] h Q
  refine mx_aload_n (pc := 0) 0 (mx_dd dd_X12_inputCount 0 (0, .aload_n 0, 1) rfl) rfl rfl ?_
  refine mx_iconst (pc := 1) (v := (0 : Int32)) (mx_dd dd_X12_inputCount 1 (1, .iconst 0, 1) rfl) (by decide) ?_
  obtain ⟨g1, P⟩ := P
  refine mx_putI (pc := 2) mx_fl_X12_3 g1 rfl (.inl rfl) rfl rfl (mx_dd dd_X12_inputCount 2 (2, .putfield 3, 3) rfl) ?_
  have P := P _ rfl
  refine mx_aload_n (pc := 5) 0 (mx_dd dd_X12_inputCount 3 (5, .aload_n 0, 1) rfl) rfl rfl ?_
  obtain ⟨b1, g2, P⟩ := P
  refine mx_getR (pc := 6) mx_fl_X12_312 g1 rfl g2 (mx_dd dd_X12_inputCount 4 (6, .getfield 312, 3) rfl) ?_
  refine mx_sipush (pc := 9) (v := (329 : Int32)) (mx_dd dd_X12_inputCount 5 (9, .sipush 329, 3) rfl) (by decide) ?_
  obtain ⟨g3, P⟩ := P
  obtain ⟨g4, P⟩ := P
  refine mx_iald (pc := 12) g3 g4 (mx_dd dd_X12_inputCount 6 (12, .iaload, 1) rfl) ?_
  exact mx_ireturn (pc := 13) (mx_dd dd_X12_inputCount 7 (13, .ireturn, 1) rfl) rfl rfl P
theorem b_X12_traceCount {d : Nat} {h : mxH} {Q : mxRes → mxH → Prop} (x0 : Nat)
    (P : hpK h x0 = 12 ∧ ∀ h1 : mxH, h1 = hsI h x0 0 (0 : Int32) → ∃ b1 : Nat, hpR h1 x0 73 = some b1 ∧ hpK h1 b1 = 14 ∧ vp_in (3 : Int32) (hpZ h1 b1) ∧ Q (.inl (some (.int (hpI h1 b1 (3 : Int32).toNatClampNeg)))) h1) : mx_SM mY_X12_traceCount d [.ref x0] h Q := by
  refine mx_SM_of (by decide) (Nat.le_of_ble_eq_true rfl) ?_
  show mx_SX mY_X12_traceCount d 0 [(0, .ref x0)] [] h Q
  refine mx_aload_n (pc := 0) 0 (mx_dd dd_X12_traceCount 0 (0, .aload_n 0, 1) rfl) rfl rfl ?_
  refine mx_iconst (pc := 1) (v := (0 : Int32)) (mx_dd dd_X12_traceCount 1 (1, .iconst 0, 1) rfl) (by decide) ?_
  obtain ⟨g1, P⟩ := P
  refine mx_putI (pc := 2) mx_fl_X12_3 g1 rfl (.inl rfl) rfl rfl (mx_dd dd_X12_traceCount 2 (2, .putfield 3, 3) rfl) ?_
  have P := P _ rfl
  refine mx_aload_n (pc := 5) 0 (mx_dd dd_X12_traceCount 3 (5, .aload_n 0, 1) rfl) rfl rfl ?_
  obtain ⟨b1, g2, P⟩ := P
  refine mx_getR (pc := 6) mx_fl_X12_413 g1 rfl g2 (mx_dd dd_X12_traceCount 4 (6, .getfield 413, 3) rfl) ?_
  refine mx_iconst (pc := 9) (v := (3 : Int32)) (mx_dd dd_X12_traceCount 5 (9, .iconst 3, 1) rfl) (by decide) ?_
  obtain ⟨g3, P⟩ := P
  obtain ⟨g4, P⟩ := P
  refine mx_iald (pc := 10) g3 g4 (mx_dd dd_X12_traceCount 6 (10, .iaload, 1) rfl) ?_
  exact mx_ireturn (pc := 11) (mx_dd dd_X12_traceCount 7 (11, .ireturn, 1) rfl) rfl rfl P
theorem b_X12_traceField {d : Nat} {h : mxH} {Q : mxRes → mxH → Prop} (x0 : Nat) (x1 : Int32) (x2 : Int32)
    (P : hpK h x0 = 12 ∧ ∀ h1 : mxH, h1 = hsI h x0 0 (0 : Int32) → ∃ b1 : Nat, hpR h1 x0 73 = some b1 ∧ hpK h1 b1 = 14 ∧ vp_in (3 : Int32) (hpZ h1 b1) ∧ 1 ≤ d ∧ mx_SM mY_X12_in (d - 1) [.int x1, .int (0 : Int32), .int ((hpI h1 b1 (3 : Int32).toNatClampNeg) - (1 : Int32))] h1 (mx_KI (fun v1 h2 => ((¬ v1 = 0 → hpK h2 x0 = 12 ∧ mx_SM mY_X12_throwsIf (d - 1) [.ref x0, .int (0 : Int32), .int (1 : Int32)] h2 (mx_KI (fun v2 h3 => ((¬ v2 = 0 → mx_SX mY_X12_traceField d 56 [] [] h3 Q) ∧ (v2 = 0 → mx_SM mY_X12_in (d - 1) [.int x2, .int (0 : Int32), .int (2 : Int32)] h3 (mx_KI (fun v3 h4 => ((¬ v3 = 0 → hpK h4 x0 = 12 ∧ mx_SM mY_X12_throwsIf (d - 1) [.ref x0, .int (0 : Int32), .int (2 : Int32)] h4 (mx_KI (fun v4 h5 => ((v4 = 0 → hpK h5 x0 = 12 ∧ ∃ b2 : Nat, hpR h5 x0 73 = some b2 ∧ hpK h5 b2 = 14 ∧ vp_in (((4 : Int32) + ((3 : Int32) * x1)) + x2) (hpZ h5 b2) ∧ Q (.inl (some (.int (hpI h5 b2 (((4 : Int32) + ((3 : Int32) * x1)) + x2).toNatClampNeg)))) h5) ∧ (¬ v4 = 0 → mx_SX mY_X12_traceField d 56 [] [] h5 Q))) (mx_XX mY_X12_traceField Q))) ∧ (v3 = 0 → hpK h4 x0 = 12 ∧ mx_SM mY_X12_throwsIf (d - 1) [.ref x0, .int (1 : Int32), .int (2 : Int32)] h4 (mx_KI (fun v5 h6 => ((v5 = 0 → hpK h6 x0 = 12 ∧ ∃ b3 : Nat, hpR h6 x0 73 = some b3 ∧ hpK h6 b3 = 14 ∧ vp_in (((4 : Int32) + ((3 : Int32) * x1)) + x2) (hpZ h6 b3) ∧ Q (.inl (some (.int (hpI h6 b3 (((4 : Int32) + ((3 : Int32) * x1)) + x2).toNatClampNeg)))) h6) ∧ (¬ v5 = 0 → mx_SX mY_X12_traceField d 56 [] [] h6 Q))) (mx_XX mY_X12_traceField Q))))) (mx_XX mY_X12_traceField Q))))) (mx_XX mY_X12_traceField Q))) ∧ (v1 = 0 → hpK h2 x0 = 12 ∧ mx_SM mY_X12_throwsIf (d - 1) [.ref x0, .int (1 : Int32), .int (1 : Int32)] h2 (mx_KI (fun v6 h7 => ((¬ v6 = 0 → mx_SX mY_X12_traceField d 56 [] [] h7 Q) ∧ (v6 = 0 → mx_SM mY_X12_in (d - 1) [.int x2, .int (0 : Int32), .int (2 : Int32)] h7 (mx_KI (fun v7 h8 => ((¬ v7 = 0 → hpK h8 x0 = 12 ∧ mx_SM mY_X12_throwsIf (d - 1) [.ref x0, .int (0 : Int32), .int (2 : Int32)] h8 (mx_KI (fun v8 h9 => ((v8 = 0 → hpK h9 x0 = 12 ∧ ∃ b4 : Nat, hpR h9 x0 73 = some b4 ∧ hpK h9 b4 = 14 ∧ vp_in (((4 : Int32) + ((3 : Int32) * x1)) + x2) (hpZ h9 b4) ∧ Q (.inl (some (.int (hpI h9 b4 (((4 : Int32) + ((3 : Int32) * x1)) + x2).toNatClampNeg)))) h9) ∧ (¬ v8 = 0 → mx_SX mY_X12_traceField d 56 [] [] h9 Q))) (mx_XX mY_X12_traceField Q))) ∧ (v7 = 0 → hpK h8 x0 = 12 ∧ mx_SM mY_X12_throwsIf (d - 1) [.ref x0, .int (1 : Int32), .int (2 : Int32)] h8 (mx_KI (fun v9 h10 => ((v9 = 0 → hpK h10 x0 = 12 ∧ ∃ b5 : Nat, hpR h10 x0 73 = some b5 ∧ hpK h10 b5 = 14 ∧ vp_in (((4 : Int32) + ((3 : Int32) * x1)) + x2) (hpZ h10 b5) ∧ Q (.inl (some (.int (hpI h10 b5 (((4 : Int32) + ((3 : Int32) * x1)) + x2).toNatClampNeg)))) h10) ∧ (¬ v9 = 0 → mx_SX mY_X12_traceField d 56 [] [] h10 Q))) (mx_XX mY_X12_traceField Q))))) (mx_XX mY_X12_traceField Q))))) (mx_XX mY_X12_traceField Q))))) (mx_XX mY_X12_traceField Q))) : mx_SM mY_X12_traceField d [.ref x0, .int x1, .int x2] h Q := by
  refine mx_SM_of (by decide) (Nat.le_of_ble_eq_true rfl) ?_
  show mx_SX mY_X12_traceField d 0 [(0, .ref x0), (1, .int x1), (2, .int x2)] [] h Q
  refine mx_aload_n (pc := 0) 0 (mx_dd dd_X12_traceField 0 (0, .aload_n 0, 1) rfl) rfl rfl ?_
  refine mx_iconst (pc := 1) (v := (0 : Int32)) (mx_dd dd_X12_traceField 1 (1, .iconst 0, 1) rfl) (by decide) ?_
  obtain ⟨g1, P⟩ := P
  refine mx_putI (pc := 2) mx_fl_X12_3 g1 rfl (.inl rfl) rfl rfl (mx_dd dd_X12_traceField 2 (2, .putfield 3, 3) rfl) ?_
  have P := P _ rfl
  refine mx_aload_n (pc := 5) 0 (mx_dd dd_X12_traceField 3 (5, .aload_n 0, 1) rfl) rfl rfl ?_
  refine mx_iload_n (pc := 6) 1 (mx_dd dd_X12_traceField 4 (6, .iload_n 1, 1) rfl) rfl rfl ?_
  refine mx_iconst (pc := 7) (v := (0 : Int32)) (mx_dd dd_X12_traceField 5 (7, .iconst 0, 1) rfl) (by decide) ?_
  refine mx_aload_n (pc := 8) 0 (mx_dd dd_X12_traceField 6 (8, .aload_n 0, 1) rfl) rfl rfl ?_
  obtain ⟨b1, g2, P⟩ := P
  refine mx_getR (pc := 9) mx_fl_X12_413 g1 rfl g2 (mx_dd dd_X12_traceField 7 (9, .getfield 413, 3) rfl) ?_
  refine mx_iconst (pc := 12) (v := (3 : Int32)) (mx_dd dd_X12_traceField 8 (12, .iconst 3, 1) rfl) (by decide) ?_
  obtain ⟨g3, P⟩ := P
  obtain ⟨g4, P⟩ := P
  refine mx_iald (pc := 13) g3 g4 (mx_dd dd_X12_traceField 9 (13, .iaload, 1) rfl) ?_
  refine mx_iconst (pc := 14) (v := (1 : Int32)) (mx_dd dd_X12_traceField 10 (14, .iconst 1, 1) rfl) (by decide) ?_
  refine mx_isub (pc := 15) (mx_dd dd_X12_traceField 11 (15, .isub, 1) rfl) ?_
  obtain ⟨g5, P⟩ := P
  refine mx_cSI (pc := 16) (Y := mY_X12_in) (As := [.int _, .int _, .int _]) mx_ml_X12_571 mx_y_X12_in rfl rfl (by simp [Value.category]) rfl (mx_dd dd_X12_traceField 12 (16, .invokestatic 571, 3) rfl) g5 (by decide) P (fun v1 h2 P => ?_)
  refine mx_if_ne (pc := 19) 26 (mx_dd dd_X12_traceField 13 (19, .ifCond .ne 7, 3) rfl) rfl (fun c19 => ?_) (fun c19 => ?_)
  · have P := P.1 c19
    refine mx_iconst (pc := 26) (v := (0 : Int32)) (mx_dd dd_X12_traceField 16 (26, .iconst 0, 1) rfl) (by decide) ?_
    refine mx_iconst (pc := 27) (v := (1 : Int32)) (mx_dd dd_X12_traceField 17 (27, .iconst 1, 1) rfl) (by decide) ?_
    obtain ⟨g6, P⟩ := P
    refine mx_cVI (pc := 28) (Y := mY_X12_throwsIf) (As := [.int _, .int _]) mx_ml_X12_274 mx_y_X12_throwsIf rfl g6 (by decide) rfl (by decide) rfl (mx_dd dd_X12_traceField 18 (28, .invokevirtual 274, 3) rfl) g5 (by decide) P (fun v2 h3 P => ?_)
    refine mx_if_ne (pc := 31) 56 (mx_dd dd_X12_traceField 19 (31, .ifCond .ne 25, 3) rfl) rfl (fun c31 => ?_) (fun c31 => ?_)
    · have P := P.1 c31
      refine mx_sel [] rfl ?_
      exact P
    · have P := P.2 c31
      refine mx_aload_n (pc := 34) 0 (mx_dd dd_X12_traceField 20 (34, .aload_n 0, 1) rfl) rfl rfl ?_
      refine mx_iload_n (pc := 35) 2 (mx_dd dd_X12_traceField 21 (35, .iload_n 2, 1) rfl) rfl rfl ?_
      refine mx_iconst (pc := 36) (v := (0 : Int32)) (mx_dd dd_X12_traceField 22 (36, .iconst 0, 1) rfl) (by decide) ?_
      refine mx_iconst (pc := 37) (v := (2 : Int32)) (mx_dd dd_X12_traceField 23 (37, .iconst 2, 1) rfl) (by decide) ?_
      refine mx_cSI (pc := 38) (Y := mY_X12_in) (As := [.int _, .int _, .int _]) mx_ml_X12_571 mx_y_X12_in rfl rfl (by simp [Value.category]) rfl (mx_dd dd_X12_traceField 24 (38, .invokestatic 571, 3) rfl) g5 (by decide) P (fun v3 h4 P => ?_)
      refine mx_if_ne (pc := 41) 48 (mx_dd dd_X12_traceField 25 (41, .ifCond .ne 7, 3) rfl) rfl (fun c41 => ?_) (fun c41 => ?_)
      · have P := P.1 c41
        refine mx_iconst (pc := 48) (v := (0 : Int32)) (mx_dd dd_X12_traceField 28 (48, .iconst 0, 1) rfl) (by decide) ?_
        refine mx_iconst (pc := 49) (v := (2 : Int32)) (mx_dd dd_X12_traceField 29 (49, .iconst 2, 1) rfl) (by decide) ?_
        obtain ⟨g7, P⟩ := P
        refine mx_cVI (pc := 50) (Y := mY_X12_throwsIf) (As := [.int _, .int _]) mx_ml_X12_274 mx_y_X12_throwsIf rfl g7 (by decide) rfl (by decide) rfl (mx_dd dd_X12_traceField 30 (50, .invokevirtual 274, 3) rfl) g5 (by decide) P (fun v4 h5 P => ?_)
        refine mx_if_eq (pc := 53) 60 (mx_dd dd_X12_traceField 31 (53, .ifCond .eq 7, 3) rfl) rfl (fun c53 => ?_) (fun c53 => ?_)
        · have P := P.1 c53
          refine mx_aload_n (pc := 60) 0 (mx_dd dd_X12_traceField 34 (60, .aload_n 0, 1) rfl) rfl rfl ?_
          obtain ⟨g8, P⟩ := P
          obtain ⟨b2, g9, P⟩ := P
          refine mx_getR (pc := 61) mx_fl_X12_413 g8 rfl g9 (mx_dd dd_X12_traceField 35 (61, .getfield 413, 3) rfl) ?_
          refine mx_iconst (pc := 64) (v := (4 : Int32)) (mx_dd dd_X12_traceField 36 (64, .iconst 4, 1) rfl) (by decide) ?_
          refine mx_iconst (pc := 65) (v := (3 : Int32)) (mx_dd dd_X12_traceField 37 (65, .iconst 3, 1) rfl) (by decide) ?_
          refine mx_iload_n (pc := 66) 1 (mx_dd dd_X12_traceField 38 (66, .iload_n 1, 1) rfl) rfl rfl ?_
          refine mx_imul (pc := 67) (mx_dd dd_X12_traceField 39 (67, .imul, 1) rfl) ?_
          refine mx_iadd (pc := 68) (mx_dd dd_X12_traceField 40 (68, .iadd, 1) rfl) ?_
          refine mx_iload_n (pc := 69) 2 (mx_dd dd_X12_traceField 41 (69, .iload_n 2, 1) rfl) rfl rfl ?_
          refine mx_iadd (pc := 70) (mx_dd dd_X12_traceField 42 (70, .iadd, 1) rfl) ?_
          obtain ⟨g10, P⟩ := P
          obtain ⟨g11, P⟩ := P
          refine mx_iald (pc := 71) g10 g11 (mx_dd dd_X12_traceField 43 (71, .iaload, 1) rfl) ?_
          exact mx_ireturn (pc := 72) (mx_dd dd_X12_traceField 44 (72, .ireturn, 1) rfl) rfl rfl P
        · have P := P.2 c53
          refine mx_sel [] rfl ?_
          exact P
      · have P := P.2 c41
        refine mx_iconst (pc := 44) (v := (1 : Int32)) (mx_dd dd_X12_traceField 26 (44, .iconst 1, 1) rfl) (by decide) ?_
        refine mx_goto (pc := 45) 49 (mx_dd dd_X12_traceField 27 (45, .goto 4, 3) rfl) rfl ?_
        refine mx_iconst (pc := 49) (v := (2 : Int32)) (mx_dd dd_X12_traceField 29 (49, .iconst 2, 1) rfl) (by decide) ?_
        obtain ⟨g12, P⟩ := P
        refine mx_cVI (pc := 50) (Y := mY_X12_throwsIf) (As := [.int _, .int _]) mx_ml_X12_274 mx_y_X12_throwsIf rfl g12 (by decide) rfl (by decide) rfl (mx_dd dd_X12_traceField 30 (50, .invokevirtual 274, 3) rfl) g5 (by decide) P (fun v5 h6 P => ?_)
        refine mx_if_eq (pc := 53) 60 (mx_dd dd_X12_traceField 31 (53, .ifCond .eq 7, 3) rfl) rfl (fun c53 => ?_) (fun c53 => ?_)
        · have P := P.1 c53
          refine mx_aload_n (pc := 60) 0 (mx_dd dd_X12_traceField 34 (60, .aload_n 0, 1) rfl) rfl rfl ?_
          obtain ⟨g13, P⟩ := P
          obtain ⟨b3, g14, P⟩ := P
          refine mx_getR (pc := 61) mx_fl_X12_413 g13 rfl g14 (mx_dd dd_X12_traceField 35 (61, .getfield 413, 3) rfl) ?_
          refine mx_iconst (pc := 64) (v := (4 : Int32)) (mx_dd dd_X12_traceField 36 (64, .iconst 4, 1) rfl) (by decide) ?_
          refine mx_iconst (pc := 65) (v := (3 : Int32)) (mx_dd dd_X12_traceField 37 (65, .iconst 3, 1) rfl) (by decide) ?_
          refine mx_iload_n (pc := 66) 1 (mx_dd dd_X12_traceField 38 (66, .iload_n 1, 1) rfl) rfl rfl ?_
          refine mx_imul (pc := 67) (mx_dd dd_X12_traceField 39 (67, .imul, 1) rfl) ?_
          refine mx_iadd (pc := 68) (mx_dd dd_X12_traceField 40 (68, .iadd, 1) rfl) ?_
          refine mx_iload_n (pc := 69) 2 (mx_dd dd_X12_traceField 41 (69, .iload_n 2, 1) rfl) rfl rfl ?_
          refine mx_iadd (pc := 70) (mx_dd dd_X12_traceField 42 (70, .iadd, 1) rfl) ?_
          obtain ⟨g15, P⟩ := P
          obtain ⟨g16, P⟩ := P
          refine mx_iald (pc := 71) g15 g16 (mx_dd dd_X12_traceField 43 (71, .iaload, 1) rfl) ?_
          exact mx_ireturn (pc := 72) (mx_dd dd_X12_traceField 44 (72, .ireturn, 1) rfl) rfl rfl P
        · have P := P.2 c53
          refine mx_sel [] rfl ?_
          exact P
  · have P := P.2 c19
    refine mx_iconst (pc := 22) (v := (1 : Int32)) (mx_dd dd_X12_traceField 14 (22, .iconst 1, 1) rfl) (by decide) ?_
    refine mx_goto (pc := 23) 27 (mx_dd dd_X12_traceField 15 (23, .goto 4, 3) rfl) rfl ?_
    refine mx_iconst (pc := 27) (v := (1 : Int32)) (mx_dd dd_X12_traceField 17 (27, .iconst 1, 1) rfl) (by decide) ?_
    obtain ⟨g17, P⟩ := P
    refine mx_cVI (pc := 28) (Y := mY_X12_throwsIf) (As := [.int _, .int _]) mx_ml_X12_274 mx_y_X12_throwsIf rfl g17 (by decide) rfl (by decide) rfl (mx_dd dd_X12_traceField 18 (28, .invokevirtual 274, 3) rfl) g5 (by decide) P (fun v6 h7 P => ?_)
    refine mx_if_ne (pc := 31) 56 (mx_dd dd_X12_traceField 19 (31, .ifCond .ne 25, 3) rfl) rfl (fun c31 => ?_) (fun c31 => ?_)
    · have P := P.1 c31
      refine mx_sel [] rfl ?_
      exact P
    · have P := P.2 c31
      refine mx_aload_n (pc := 34) 0 (mx_dd dd_X12_traceField 20 (34, .aload_n 0, 1) rfl) rfl rfl ?_
      refine mx_iload_n (pc := 35) 2 (mx_dd dd_X12_traceField 21 (35, .iload_n 2, 1) rfl) rfl rfl ?_
      refine mx_iconst (pc := 36) (v := (0 : Int32)) (mx_dd dd_X12_traceField 22 (36, .iconst 0, 1) rfl) (by decide) ?_
      refine mx_iconst (pc := 37) (v := (2 : Int32)) (mx_dd dd_X12_traceField 23 (37, .iconst 2, 1) rfl) (by decide) ?_
      refine mx_cSI (pc := 38) (Y := mY_X12_in) (As := [.int _, .int _, .int _]) mx_ml_X12_571 mx_y_X12_in rfl rfl (by simp [Value.category]) rfl (mx_dd dd_X12_traceField 24 (38, .invokestatic 571, 3) rfl) g5 (by decide) P (fun v7 h8 P => ?_)
      refine mx_if_ne (pc := 41) 48 (mx_dd dd_X12_traceField 25 (41, .ifCond .ne 7, 3) rfl) rfl (fun c41 => ?_) (fun c41 => ?_)
      · have P := P.1 c41
        refine mx_iconst (pc := 48) (v := (0 : Int32)) (mx_dd dd_X12_traceField 28 (48, .iconst 0, 1) rfl) (by decide) ?_
        refine mx_iconst (pc := 49) (v := (2 : Int32)) (mx_dd dd_X12_traceField 29 (49, .iconst 2, 1) rfl) (by decide) ?_
        obtain ⟨g18, P⟩ := P
        refine mx_cVI (pc := 50) (Y := mY_X12_throwsIf) (As := [.int _, .int _]) mx_ml_X12_274 mx_y_X12_throwsIf rfl g18 (by decide) rfl (by decide) rfl (mx_dd dd_X12_traceField 30 (50, .invokevirtual 274, 3) rfl) g5 (by decide) P (fun v8 h9 P => ?_)
        refine mx_if_eq (pc := 53) 60 (mx_dd dd_X12_traceField 31 (53, .ifCond .eq 7, 3) rfl) rfl (fun c53 => ?_) (fun c53 => ?_)
        · have P := P.1 c53
          refine mx_aload_n (pc := 60) 0 (mx_dd dd_X12_traceField 34 (60, .aload_n 0, 1) rfl) rfl rfl ?_
          obtain ⟨g19, P⟩ := P
          obtain ⟨b4, g20, P⟩ := P
          refine mx_getR (pc := 61) mx_fl_X12_413 g19 rfl g20 (mx_dd dd_X12_traceField 35 (61, .getfield 413, 3) rfl) ?_
          refine mx_iconst (pc := 64) (v := (4 : Int32)) (mx_dd dd_X12_traceField 36 (64, .iconst 4, 1) rfl) (by decide) ?_
          refine mx_iconst (pc := 65) (v := (3 : Int32)) (mx_dd dd_X12_traceField 37 (65, .iconst 3, 1) rfl) (by decide) ?_
          refine mx_iload_n (pc := 66) 1 (mx_dd dd_X12_traceField 38 (66, .iload_n 1, 1) rfl) rfl rfl ?_
          refine mx_imul (pc := 67) (mx_dd dd_X12_traceField 39 (67, .imul, 1) rfl) ?_
          refine mx_iadd (pc := 68) (mx_dd dd_X12_traceField 40 (68, .iadd, 1) rfl) ?_
          refine mx_iload_n (pc := 69) 2 (mx_dd dd_X12_traceField 41 (69, .iload_n 2, 1) rfl) rfl rfl ?_
          refine mx_iadd (pc := 70) (mx_dd dd_X12_traceField 42 (70, .iadd, 1) rfl) ?_
          obtain ⟨g21, P⟩ := P
          obtain ⟨g22, P⟩ := P
          refine mx_iald (pc := 71) g21 g22 (mx_dd dd_X12_traceField 43 (71, .iaload, 1) rfl) ?_
          exact mx_ireturn (pc := 72) (mx_dd dd_X12_traceField 44 (72, .ireturn, 1) rfl) rfl rfl P
        · have P := P.2 c53
          refine mx_sel [] rfl ?_
          exact P
      · have P := P.2 c41
        refine mx_iconst (pc := 44) (v := (1 : Int32)) (mx_dd dd_X12_traceField 26 (44, .iconst 1, 1) rfl) (by decide) ?_
        refine mx_goto (pc := 45) 49 (mx_dd dd_X12_traceField 27 (45, .goto 4, 3) rfl) rfl ?_
        refine mx_iconst (pc := 49) (v := (2 : Int32)) (mx_dd dd_X12_traceField 29 (49, .iconst 2, 1) rfl) (by decide) ?_
        obtain ⟨g23, P⟩ := P
        refine mx_cVI (pc := 50) (Y := mY_X12_throwsIf) (As := [.int _, .int _]) mx_ml_X12_274 mx_y_X12_throwsIf rfl g23 (by decide) rfl (by decide) rfl (mx_dd dd_X12_traceField 30 (50, .invokevirtual 274, 3) rfl) g5 (by decide) P (fun v9 h10 P => ?_)
        refine mx_if_eq (pc := 53) 60 (mx_dd dd_X12_traceField 31 (53, .ifCond .eq 7, 3) rfl) rfl (fun c53 => ?_) (fun c53 => ?_)
        · have P := P.1 c53
          refine mx_aload_n (pc := 60) 0 (mx_dd dd_X12_traceField 34 (60, .aload_n 0, 1) rfl) rfl rfl ?_
          obtain ⟨g24, P⟩ := P
          obtain ⟨b5, g25, P⟩ := P
          refine mx_getR (pc := 61) mx_fl_X12_413 g24 rfl g25 (mx_dd dd_X12_traceField 35 (61, .getfield 413, 3) rfl) ?_
          refine mx_iconst (pc := 64) (v := (4 : Int32)) (mx_dd dd_X12_traceField 36 (64, .iconst 4, 1) rfl) (by decide) ?_
          refine mx_iconst (pc := 65) (v := (3 : Int32)) (mx_dd dd_X12_traceField 37 (65, .iconst 3, 1) rfl) (by decide) ?_
          refine mx_iload_n (pc := 66) 1 (mx_dd dd_X12_traceField 38 (66, .iload_n 1, 1) rfl) rfl rfl ?_
          refine mx_imul (pc := 67) (mx_dd dd_X12_traceField 39 (67, .imul, 1) rfl) ?_
          refine mx_iadd (pc := 68) (mx_dd dd_X12_traceField 40 (68, .iadd, 1) rfl) ?_
          refine mx_iload_n (pc := 69) 2 (mx_dd dd_X12_traceField 41 (69, .iload_n 2, 1) rfl) rfl rfl ?_
          refine mx_iadd (pc := 70) (mx_dd dd_X12_traceField 42 (70, .iadd, 1) rfl) ?_
          obtain ⟨g26, P⟩ := P
          obtain ⟨g27, P⟩ := P
          refine mx_iald (pc := 71) g26 g27 (mx_dd dd_X12_traceField 43 (71, .iaload, 1) rfl) ?_
          exact mx_ireturn (pc := 72) (mx_dd dd_X12_traceField 44 (72, .ireturn, 1) rfl) rfl rfl P
        · have P := P.2 c53
          refine mx_sel [] rfl ?_
          exact P
theorem b_X12_traceField_56 {d : Nat} {h : mxH} {Q : mxRes → mxH → Prop} 
    (P : Q (.inl (some (.int (0 : Int32)))) h) : mx_SX mY_X12_traceField d 56 [] [] h Q := by
  refine mx_iconst (pc := 56) (v := (0 : Int32)) (mx_dd dd_X12_traceField 32 (56, .iconst 0, 1) rfl) (by decide) ?_
  refine mx_goto (pc := 57) 72 (mx_dd dd_X12_traceField 33 (57, .goto 15, 3) rfl) rfl ?_
  exact mx_ireturn (pc := 72) (mx_dd dd_X12_traceField 44 (72, .ireturn, 1) rfl) rfl rfl P
theorem b_X12_failures {d : Nat} {h : mxH} {Q : mxRes → mxH → Prop} (x0 : Nat)
    (P : hpK h x0 = 12 ∧ ∀ h1 : mxH, h1 = hsI h x0 0 (0 : Int32) → mx_SX mY_X12_failures d 9 [(0, .ref x0), (1, .int (0 : Int32)), (2, .int (0 : Int32))] [] h1 Q) : mx_SM mY_X12_failures d [.ref x0] h Q := by
  refine mx_SM_of (by decide) (Nat.le_of_ble_eq_true rfl) ?_
  show mx_SX mY_X12_failures d 0 [(0, .ref x0)] [] h Q
  refine mx_aload_n (pc := 0) 0 (mx_dd dd_X12_failures 0 (0, .aload_n 0, 1) rfl) rfl rfl ?_
  refine mx_iconst (pc := 1) (v := (0 : Int32)) (mx_dd dd_X12_failures 1 (1, .iconst 0, 1) rfl) (by decide) ?_
  obtain ⟨g1, P⟩ := P
  refine mx_putI (pc := 2) mx_fl_X12_3 g1 rfl (.inl rfl) rfl rfl (mx_dd dd_X12_failures 2 (2, .putfield 3, 3) rfl) ?_
  have P := P _ rfl
  refine mx_iconst (pc := 5) (v := (0 : Int32)) (mx_dd dd_X12_failures 3 (5, .iconst 0, 1) rfl) (by decide) ?_
  refine mx_istore_n (pc := 6) (mx_dd dd_X12_failures 4 (6, .istore_n 1, 1) rfl) rfl (by decide) (lv' := [(1, _), (0, _)]) rfl ?_
  refine mx_iconst (pc := 7) (v := (0 : Int32)) (mx_dd dd_X12_failures 5 (7, .iconst 0, 1) rfl) (by decide) ?_
  refine mx_istore_n (pc := 8) (mx_dd dd_X12_failures 6 (8, .istore_n 2, 1) rfl) rfl (by decide) (lv' := [(2, _), (1, _), (0, _)]) rfl ?_
  refine mx_sel [2, 1, 0] rfl ?_
  exact P
theorem b_X12_failures_9 {d : Nat} {h : mxH} {Q : mxRes → mxH → Prop} (x0 : Nat) (x1 : Int32) (x2 : Int32)
    (P : hpK h x0 = 12 ∧ ∃ b1 : Nat, hpR h x0 73 = some b1 ∧ hpK h b1 = 14 ∧ vp_in (3 : Int32) (hpZ h b1) ∧ (((hpI h b1 (3 : Int32).toNatClampNeg) ≤ x2 → Q (.inl (some (.int x1))) h) ∧ (¬ (hpI h b1 (3 : Int32).toNatClampNeg) ≤ x2 → vp_in (((4 : Int32) + ((3 : Int32) * x2)) + (1 : Int32)) (hpZ h b1) ∧ (((hpI h b1 (((4 : Int32) + ((3 : Int32) * x2)) + (1 : Int32)).toNatClampNeg) = 0 → mx_SX mY_X12_failures d 9 [(0, .ref x0), (1, .int (x1 + (0 : Int32))), (2, .int (x2 + (1 : Int32)))] [] h Q) ∧ (¬ (hpI h b1 (((4 : Int32) + ((3 : Int32) * x2)) + (1 : Int32)).toNatClampNeg) = 0 → mx_SX mY_X12_failures d 9 [(0, .ref x0), (1, .int (x1 + (1 : Int32))), (2, .int (x2 + (1 : Int32)))] [] h Q))))) : mx_SX mY_X12_failures d 9 [(0, .ref x0), (1, .int x1), (2, .int x2)] [] h Q := by
  refine mx_iload_n (pc := 9) 2 (mx_dd dd_X12_failures 7 (9, .iload_n 2, 1) rfl) rfl rfl ?_
  refine mx_aload_n (pc := 10) 0 (mx_dd dd_X12_failures 8 (10, .aload_n 0, 1) rfl) rfl rfl ?_
  obtain ⟨g1, P⟩ := P
  obtain ⟨b1, g2, P⟩ := P
  refine mx_getR (pc := 11) mx_fl_X12_413 g1 rfl g2 (mx_dd dd_X12_failures 9 (11, .getfield 413, 3) rfl) ?_
  refine mx_iconst (pc := 14) (v := (3 : Int32)) (mx_dd dd_X12_failures 10 (14, .iconst 3, 1) rfl) (by decide) ?_
  obtain ⟨g3, P⟩ := P
  obtain ⟨g4, P⟩ := P
  refine mx_iald (pc := 15) g3 g4 (mx_dd dd_X12_failures 11 (15, .iaload, 1) rfl) ?_
  refine mx_icmp_ge (pc := 16) 48 (mx_dd dd_X12_failures 12 (16, .if_icmp .ge 32, 3) rfl) rfl (fun c16 => ?_) (fun c16 => ?_)
  · have P := P.1 c16
    refine mx_iload_n (pc := 48) 1 (mx_dd dd_X12_failures 32 (48, .iload_n 1, 1) rfl) rfl rfl ?_
    exact mx_ireturn (pc := 49) (mx_dd dd_X12_failures 33 (49, .ireturn, 1) rfl) rfl rfl P
  · have P := P.2 c16
    refine mx_iload_n (pc := 19) 1 (mx_dd dd_X12_failures 13 (19, .iload_n 1, 1) rfl) rfl rfl ?_
    refine mx_aload_n (pc := 20) 0 (mx_dd dd_X12_failures 14 (20, .aload_n 0, 1) rfl) rfl rfl ?_
    refine mx_getR (pc := 21) mx_fl_X12_413 g1 rfl g2 (mx_dd dd_X12_failures 15 (21, .getfield 413, 3) rfl) ?_
    refine mx_iconst (pc := 24) (v := (4 : Int32)) (mx_dd dd_X12_failures 16 (24, .iconst 4, 1) rfl) (by decide) ?_
    refine mx_iconst (pc := 25) (v := (3 : Int32)) (mx_dd dd_X12_failures 17 (25, .iconst 3, 1) rfl) (by decide) ?_
    refine mx_iload_n (pc := 26) 2 (mx_dd dd_X12_failures 18 (26, .iload_n 2, 1) rfl) rfl rfl ?_
    refine mx_imul (pc := 27) (mx_dd dd_X12_failures 19 (27, .imul, 1) rfl) ?_
    refine mx_iadd (pc := 28) (mx_dd dd_X12_failures 20 (28, .iadd, 1) rfl) ?_
    refine mx_iconst (pc := 29) (v := (1 : Int32)) (mx_dd dd_X12_failures 21 (29, .iconst 1, 1) rfl) (by decide) ?_
    refine mx_iadd (pc := 30) (mx_dd dd_X12_failures 22 (30, .iadd, 1) rfl) ?_
    obtain ⟨g5, P⟩ := P
    refine mx_iald (pc := 31) g3 g5 (mx_dd dd_X12_failures 23 (31, .iaload, 1) rfl) ?_
    refine mx_if_eq (pc := 32) 39 (mx_dd dd_X12_failures 24 (32, .ifCond .eq 7, 3) rfl) rfl (fun c32 => ?_) (fun c32 => ?_)
    · have P := P.1 c32
      refine mx_iconst (pc := 39) (v := (0 : Int32)) (mx_dd dd_X12_failures 27 (39, .iconst 0, 1) rfl) (by decide) ?_
      refine mx_iadd (pc := 40) (mx_dd dd_X12_failures 28 (40, .iadd, 1) rfl) ?_
      refine mx_istore_n (pc := 41) (mx_dd dd_X12_failures 29 (41, .istore_n 1, 1) rfl) rfl (by decide) (lv' := [(1, _), (0, _), (2, _)]) rfl ?_
      refine mx_iinc (pc := 42) 2 (mx_dd dd_X12_failures 30 (42, .iinc 2 1, 3) rfl) rfl (mx_kadd (by decide : Int32.ofInt 1 = (1 : Int32))) (by decide) (lv' := [(2, _), (1, _), (0, _)]) rfl ?_
      refine mx_goto (pc := 45) 9 (mx_dd dd_X12_failures 31 (45, .goto (-36), 3) rfl) rfl ?_
      refine mx_sel [2, 1, 0] rfl ?_
      exact P
    · have P := P.2 c32
      refine mx_iconst (pc := 35) (v := (1 : Int32)) (mx_dd dd_X12_failures 25 (35, .iconst 1, 1) rfl) (by decide) ?_
      refine mx_goto (pc := 36) 40 (mx_dd dd_X12_failures 26 (36, .goto 4, 3) rfl) rfl ?_
      refine mx_iadd (pc := 40) (mx_dd dd_X12_failures 28 (40, .iadd, 1) rfl) ?_
      refine mx_istore_n (pc := 41) (mx_dd dd_X12_failures 29 (41, .istore_n 1, 1) rfl) rfl (by decide) (lv' := [(1, _), (0, _), (2, _)]) rfl ?_
      refine mx_iinc (pc := 42) 2 (mx_dd dd_X12_failures 30 (42, .iinc 2 1, 3) rfl) rfl (mx_kadd (by decide : Int32.ofInt 1 = (1 : Int32))) (by decide) (lv' := [(2, _), (1, _), (0, _)]) rfl ?_
      refine mx_goto (pc := 45) 9 (mx_dd dd_X12_failures 31 (45, .goto (-36), 3) rfl) rfl ?_
      refine mx_sel [2, 1, 0] rfl ?_
      exact P
theorem b_X12_shows {d : Nat} {h : mxH} {Q : mxRes → mxH → Prop} (x0 : Nat) (x1 : Int32)
    (P : hpK h x0 = 12 ∧ ∃ b1 : Nat, hpR h x0 53 = some b1 ∧ hpK h b1 = 14 ∧ vp_in x1 (hpZ h b1) ∧ ∀ h1 : mxH, h1 = hsI h x0 84 (hpI h b1 x1.toNatClampNeg) → mx_SX mY_X12_shows d 12 [(0, .ref x0), (1, .int x1), (2, .int (0 : Int32))] [] h1 Q) : mx_SM mY_X12_shows d [.ref x0, .int x1] h Q := by
  refine mx_SM_of (by decide) (Nat.le_of_ble_eq_true rfl) ?_
  show mx_SX mY_X12_shows d 0 [(0, .ref x0), (1, .int x1)] [] h Q
  refine mx_aload_n (pc := 0) 0 (mx_dd dd_X12_shows 0 (0, .aload_n 0, 1) rfl) rfl rfl ?_
  refine mx_aload_n (pc := 1) 0 (mx_dd dd_X12_shows 1 (1, .aload_n 0, 1) rfl) rfl rfl ?_
  obtain ⟨g1, P⟩ := P
  obtain ⟨b1, g2, P⟩ := P
  refine mx_getR (pc := 2) mx_fl_X12_355 g1 rfl g2 (mx_dd dd_X12_shows 2 (2, .getfield 355, 3) rfl) ?_
  refine mx_iload_n (pc := 5) 1 (mx_dd dd_X12_shows 3 (5, .iload_n 1, 1) rfl) rfl rfl ?_
  obtain ⟨g3, P⟩ := P
  obtain ⟨g4, P⟩ := P
  refine mx_iald (pc := 6) g3 g4 (mx_dd dd_X12_shows 4 (6, .iaload, 1) rfl) ?_
  refine mx_putI (pc := 7) mx_fl_X12_709 g1 rfl (.inl rfl) rfl rfl (mx_dd dd_X12_shows 5 (7, .putfield 709, 3) rfl) ?_
  have P := P _ rfl
  refine mx_iconst (pc := 10) (v := (0 : Int32)) (mx_dd dd_X12_shows 6 (10, .iconst 0, 1) rfl) (by decide) ?_
  refine mx_istore_n (pc := 11) (mx_dd dd_X12_shows 7 (11, .istore_n 2, 1) rfl) rfl (by decide) (lv' := [(2, _), (0, _), (1, _)]) rfl ?_
  refine mx_sel [1, 2, 0] rfl ?_
  exact P
theorem b_X12_shows_12 {d : Nat} {h : mxH} {Q : mxRes → mxH → Prop} (x0 : Nat) (x1 : Int32) (x2 : Int32)
    (P : hpK h x0 = 12 ∧ (((hpI h x0 84) ≤ x2 → Q (.inl (some (.int (hpI h x0 84)))) h) ∧ (¬ (hpI h x0 84) ≤ x2 → ∃ b1 : Nat, hpR h x0 83 = some b1 ∧ ∃ b2 : Nat, hpR h x0 52 = some b2 ∧ hpK h b2 = 13 ∧ vp_in (((80 : Int32) * x1) + x2) (hpZ h b2) ∧ hpK h b1 = 13 ∧ vp_in x2 (hpZ h b1) ∧ ∀ h1 : mxH, h1 = hsI h b1 x2.toNatClampNeg (hpI h b2 (((80 : Int32) * x1) + x2).toNatClampNeg).toInt8.toInt32 → mx_SX mY_X12_shows d 12 [(0, .ref x0), (1, .int x1), (2, .int (x2 + (1 : Int32)))] [] h1 Q))) : mx_SX mY_X12_shows d 12 [(0, .ref x0), (1, .int x1), (2, .int x2)] [] h Q := by
  refine mx_iload_n (pc := 12) 2 (mx_dd dd_X12_shows 8 (12, .iload_n 2, 1) rfl) rfl rfl ?_
  refine mx_aload_n (pc := 13) 0 (mx_dd dd_X12_shows 9 (13, .aload_n 0, 1) rfl) rfl rfl ?_
  obtain ⟨g1, P⟩ := P
  refine mx_getI (pc := 14) mx_fl_X12_709 g1 rfl (mx_dd dd_X12_shows 10 (14, .getfield 709, 3) rfl) ?_
  refine mx_icmp_ge (pc := 17) 43 (mx_dd dd_X12_shows 11 (17, .if_icmp .ge 26, 3) rfl) rfl (fun c17 => ?_) (fun c17 => ?_)
  · have P := P.1 c17
    refine mx_aload_n (pc := 43) 0 (mx_dd dd_X12_shows 26 (43, .aload_n 0, 1) rfl) rfl rfl ?_
    refine mx_getI (pc := 44) mx_fl_X12_709 g1 rfl (mx_dd dd_X12_shows 27 (44, .getfield 709, 3) rfl) ?_
    exact mx_ireturn (pc := 47) (mx_dd dd_X12_shows 28 (47, .ireturn, 1) rfl) rfl rfl P
  · have P := P.2 c17
    refine mx_aload_n (pc := 20) 0 (mx_dd dd_X12_shows 12 (20, .aload_n 0, 1) rfl) rfl rfl ?_
    obtain ⟨b1, g2, P⟩ := P
    refine mx_getR (pc := 21) mx_fl_X12_691 g1 rfl g2 (mx_dd dd_X12_shows 13 (21, .getfield 691, 3) rfl) ?_
    refine mx_iload_n (pc := 24) 2 (mx_dd dd_X12_shows 14 (24, .iload_n 2, 1) rfl) rfl rfl ?_
    refine mx_aload_n (pc := 25) 0 (mx_dd dd_X12_shows 15 (25, .aload_n 0, 1) rfl) rfl rfl ?_
    obtain ⟨b2, g3, P⟩ := P
    refine mx_getR (pc := 26) mx_fl_X12_358 g1 rfl g3 (mx_dd dd_X12_shows 16 (26, .getfield 358, 3) rfl) ?_
    refine mx_bipush (pc := 29) (v := (80 : Int32)) (mx_dd dd_X12_shows 17 (29, .bipush 80, 2) rfl) (by decide) ?_
    refine mx_iload_n (pc := 31) 1 (mx_dd dd_X12_shows 18 (31, .iload_n 1, 1) rfl) rfl rfl ?_
    refine mx_imul (pc := 32) (mx_dd dd_X12_shows 19 (32, .imul, 1) rfl) ?_
    refine mx_iload_n (pc := 33) 2 (mx_dd dd_X12_shows 20 (33, .iload_n 2, 1) rfl) rfl rfl ?_
    refine mx_iadd (pc := 34) (mx_dd dd_X12_shows 21 (34, .iadd, 1) rfl) ?_
    obtain ⟨g4, P⟩ := P
    obtain ⟨g5, P⟩ := P
    refine mx_bald (pc := 35) g4 g5 (mx_dd dd_X12_shows 22 (35, .baload, 1) rfl) ?_
    obtain ⟨g6, P⟩ := P
    obtain ⟨g7, P⟩ := P
    refine mx_bast (pc := 36) g6 g7 (mx_dd dd_X12_shows 23 (36, .bastore, 1) rfl) ?_
    have P := P _ rfl
    refine mx_iinc (pc := 37) 2 (mx_dd dd_X12_shows 24 (37, .iinc 2 1, 3) rfl) rfl (mx_kadd (by decide : Int32.ofInt 1 = (1 : Int32))) (by decide) (lv' := [(2, _), (0, _), (1, _)]) rfl ?_
    refine mx_goto (pc := 40) 12 (mx_dd dd_X12_shows 25 (40, .goto (-28), 3) rfl) rfl ?_
    refine mx_sel [1, 2, 0] rfl ?_
    exact P
theorem b_X12_formatLine {d : Nat} {h : mxH} {Q : mxRes → mxH → Prop} (x0 : Nat) (x1 : Int32) (x2 : Int32)
    (P : hpK h x0 = 12 ∧ ∀ h1 : mxH, h1 = hsI h x0 0 (0 : Int32) → 1 ≤ d ∧ mx_SM mY_X12_noFile (d - 1) [.ref x0, .int x1] h1 (mx_KI (fun v1 h2 => ((¬ v1 = 0 → mx_SX mY_X12_formatLine d 41 [] [] h2 Q) ∧ (v1 = 0 → hpK h2 x0 = 12 ∧ mx_SM mY_X12_linesOf (d - 1) [.ref x0, .int x1] h2 (mx_KI (fun v2 h3 => mx_SM mY_X12_in (d - 1) [.int x2, .int (0 : Int32), .int (v2 - (1 : Int32))] h3 (mx_KI (fun v3 h4 => ((¬ v3 = 0 → hpK h4 x0 = 12 ∧ mx_SM mY_X12_throwsIf (d - 1) [.ref x0, .int (0 : Int32), .int (1 : Int32)] h4 (mx_KI (fun v4 h5 => ((v4 = 0 → hpK h5 x0 = 12 ∧ mx_SM mY_X12_lineIn (d - 1) [.ref x0, .int x1, .int x2] h5 (mx_KI (fun v5 h6 => hpK h6 x0 = 12 ∧ mx_SM mY_X12_shows (d - 1) [.ref x0, .int v5] h6 (mx_KI (fun v6 h7 => Q (.inl (some (.int v6))) h7) (mx_XX mY_X12_formatLine Q))) (mx_XX mY_X12_formatLine Q))) ∧ (¬ v4 = 0 → mx_SX mY_X12_formatLine d 41 [] [] h5 Q))) (mx_XX mY_X12_formatLine Q))) ∧ (v3 = 0 → hpK h4 x0 = 12 ∧ mx_SM mY_X12_throwsIf (d - 1) [.ref x0, .int (1 : Int32), .int (1 : Int32)] h4 (mx_KI (fun v7 h8 => ((v7 = 0 → hpK h8 x0 = 12 ∧ mx_SM mY_X12_lineIn (d - 1) [.ref x0, .int x1, .int x2] h8 (mx_KI (fun v8 h9 => hpK h9 x0 = 12 ∧ mx_SM mY_X12_shows (d - 1) [.ref x0, .int v8] h9 (mx_KI (fun v9 h10 => Q (.inl (some (.int v9))) h10) (mx_XX mY_X12_formatLine Q))) (mx_XX mY_X12_formatLine Q))) ∧ (¬ v7 = 0 → mx_SX mY_X12_formatLine d 41 [] [] h8 Q))) (mx_XX mY_X12_formatLine Q))))) (mx_XX mY_X12_formatLine Q))) (mx_XX mY_X12_formatLine Q))))) (mx_XX mY_X12_formatLine Q))) : mx_SM mY_X12_formatLine d [.ref x0, .int x1, .int x2] h Q := by
  refine mx_SM_of (by decide) (Nat.le_of_ble_eq_true rfl) ?_
  show mx_SX mY_X12_formatLine d 0 [(0, .ref x0), (1, .int x1), (2, .int x2)] [] h Q
  refine mx_aload_n (pc := 0) 0 (mx_dd dd_X12_formatLine 0 (0, .aload_n 0, 1) rfl) rfl rfl ?_
  refine mx_iconst (pc := 1) (v := (0 : Int32)) (mx_dd dd_X12_formatLine 1 (1, .iconst 0, 1) rfl) (by decide) ?_
  obtain ⟨g1, P⟩ := P
  refine mx_putI (pc := 2) mx_fl_X12_3 g1 rfl (.inl rfl) rfl rfl (mx_dd dd_X12_formatLine 2 (2, .putfield 3, 3) rfl) ?_
  have P := P _ rfl
  refine mx_aload_n (pc := 5) 0 (mx_dd dd_X12_formatLine 3 (5, .aload_n 0, 1) rfl) rfl rfl ?_
  refine mx_iload_n (pc := 6) 1 (mx_dd dd_X12_formatLine 4 (6, .iload_n 1, 1) rfl) rfl rfl ?_
  obtain ⟨g2, P⟩ := P
  refine mx_cVI (pc := 7) (Y := mY_X12_noFile) (As := [.int _]) mx_ml_X12_706 mx_y_X12_noFile rfl g1 (by decide) rfl (by decide) rfl (mx_dd dd_X12_formatLine 5 (7, .invokevirtual 706, 3) rfl) g2 (by decide) P (fun v1 h2 P => ?_)
  refine mx_if_ne (pc := 10) 41 (mx_dd dd_X12_formatLine 6 (10, .ifCond .ne 31, 3) rfl) rfl (fun c10 => ?_) (fun c10 => ?_)
  · have P := P.1 c10
    refine mx_sel [] rfl ?_
    exact P
  · have P := P.2 c10
    refine mx_aload_n (pc := 13) 0 (mx_dd dd_X12_formatLine 7 (13, .aload_n 0, 1) rfl) rfl rfl ?_
    refine mx_iload_n (pc := 14) 2 (mx_dd dd_X12_formatLine 8 (14, .iload_n 2, 1) rfl) rfl rfl ?_
    refine mx_iconst (pc := 15) (v := (0 : Int32)) (mx_dd dd_X12_formatLine 9 (15, .iconst 0, 1) rfl) (by decide) ?_
    refine mx_aload_n (pc := 16) 0 (mx_dd dd_X12_formatLine 10 (16, .aload_n 0, 1) rfl) rfl rfl ?_
    refine mx_iload_n (pc := 17) 1 (mx_dd dd_X12_formatLine 11 (17, .iload_n 1, 1) rfl) rfl rfl ?_
    obtain ⟨g3, P⟩ := P
    refine mx_cVI (pc := 18) (Y := mY_X12_linesOf) (As := [.int _]) mx_ml_X12_443 mx_y_X12_linesOf rfl g3 (by decide) rfl (by simp [Value.category]) rfl (mx_dd dd_X12_formatLine 12 (18, .invokevirtual 443, 3) rfl) g2 (by decide) P (fun v2 h3 P => ?_)
    refine mx_iconst (pc := 21) (v := (1 : Int32)) (mx_dd dd_X12_formatLine 13 (21, .iconst 1, 1) rfl) (by decide) ?_
    refine mx_isub (pc := 22) (mx_dd dd_X12_formatLine 14 (22, .isub, 1) rfl) ?_
    refine mx_cSI (pc := 23) (Y := mY_X12_in) (As := [.int _, .int _, .int _]) mx_ml_X12_571 mx_y_X12_in rfl rfl (by simp [Value.category]) rfl (mx_dd dd_X12_formatLine 15 (23, .invokestatic 571, 3) rfl) g2 (by decide) P (fun v3 h4 P => ?_)
    refine mx_if_ne (pc := 26) 33 (mx_dd dd_X12_formatLine 16 (26, .ifCond .ne 7, 3) rfl) rfl (fun c26 => ?_) (fun c26 => ?_)
    · have P := P.1 c26
      refine mx_iconst (pc := 33) (v := (0 : Int32)) (mx_dd dd_X12_formatLine 19 (33, .iconst 0, 1) rfl) (by decide) ?_
      refine mx_iconst (pc := 34) (v := (1 : Int32)) (mx_dd dd_X12_formatLine 20 (34, .iconst 1, 1) rfl) (by decide) ?_
      obtain ⟨g4, P⟩ := P
      refine mx_cVI (pc := 35) (Y := mY_X12_throwsIf) (As := [.int _, .int _]) mx_ml_X12_274 mx_y_X12_throwsIf rfl g4 (by decide) rfl (by decide) rfl (mx_dd dd_X12_formatLine 21 (35, .invokevirtual 274, 3) rfl) g2 (by decide) P (fun v4 h5 P => ?_)
      refine mx_if_eq (pc := 38) 45 (mx_dd dd_X12_formatLine 22 (38, .ifCond .eq 7, 3) rfl) rfl (fun c38 => ?_) (fun c38 => ?_)
      · have P := P.1 c38
        refine mx_aload_n (pc := 45) 0 (mx_dd dd_X12_formatLine 25 (45, .aload_n 0, 1) rfl) rfl rfl ?_
        refine mx_aload_n (pc := 46) 0 (mx_dd dd_X12_formatLine 26 (46, .aload_n 0, 1) rfl) rfl rfl ?_
        refine mx_iload_n (pc := 47) 1 (mx_dd dd_X12_formatLine 27 (47, .iload_n 1, 1) rfl) rfl rfl ?_
        refine mx_iload_n (pc := 48) 2 (mx_dd dd_X12_formatLine 28 (48, .iload_n 2, 1) rfl) rfl rfl ?_
        obtain ⟨g5, P⟩ := P
        refine mx_cVI (pc := 49) (Y := mY_X12_lineIn) (As := [.int _, .int _]) mx_ml_X12_446 mx_y_X12_lineIn rfl g5 (by decide) rfl (by simp [Value.category]) rfl (mx_dd dd_X12_formatLine 29 (49, .invokevirtual 446, 3) rfl) g2 (by decide) P (fun v5 h6 P => ?_)
        obtain ⟨g6, P⟩ := P
        refine mx_cVI (pc := 52) (Y := mY_X12_shows) (As := [.int _]) mx_ml_X12_712 mx_y_X12_shows rfl g6 (by decide) rfl (by decide) rfl (mx_dd dd_X12_formatLine 30 (52, .invokevirtual 712, 3) rfl) g2 (by decide) P (fun v6 h7 P => ?_)
        exact mx_ireturn (pc := 55) (mx_dd dd_X12_formatLine 31 (55, .ireturn, 1) rfl) rfl rfl P
      · have P := P.2 c38
        refine mx_sel [] rfl ?_
        exact P
    · have P := P.2 c26
      refine mx_iconst (pc := 29) (v := (1 : Int32)) (mx_dd dd_X12_formatLine 17 (29, .iconst 1, 1) rfl) (by decide) ?_
      refine mx_goto (pc := 30) 34 (mx_dd dd_X12_formatLine 18 (30, .goto 4, 3) rfl) rfl ?_
      refine mx_iconst (pc := 34) (v := (1 : Int32)) (mx_dd dd_X12_formatLine 20 (34, .iconst 1, 1) rfl) (by decide) ?_
      obtain ⟨g7, P⟩ := P
      refine mx_cVI (pc := 35) (Y := mY_X12_throwsIf) (As := [.int _, .int _]) mx_ml_X12_274 mx_y_X12_throwsIf rfl g7 (by decide) rfl (by decide) rfl (mx_dd dd_X12_formatLine 21 (35, .invokevirtual 274, 3) rfl) g2 (by decide) P (fun v7 h8 P => ?_)
      refine mx_if_eq (pc := 38) 45 (mx_dd dd_X12_formatLine 22 (38, .ifCond .eq 7, 3) rfl) rfl (fun c38 => ?_) (fun c38 => ?_)
      · have P := P.1 c38
        refine mx_aload_n (pc := 45) 0 (mx_dd dd_X12_formatLine 25 (45, .aload_n 0, 1) rfl) rfl rfl ?_
        refine mx_aload_n (pc := 46) 0 (mx_dd dd_X12_formatLine 26 (46, .aload_n 0, 1) rfl) rfl rfl ?_
        refine mx_iload_n (pc := 47) 1 (mx_dd dd_X12_formatLine 27 (47, .iload_n 1, 1) rfl) rfl rfl ?_
        refine mx_iload_n (pc := 48) 2 (mx_dd dd_X12_formatLine 28 (48, .iload_n 2, 1) rfl) rfl rfl ?_
        obtain ⟨g8, P⟩ := P
        refine mx_cVI (pc := 49) (Y := mY_X12_lineIn) (As := [.int _, .int _]) mx_ml_X12_446 mx_y_X12_lineIn rfl g8 (by decide) rfl (by simp [Value.category]) rfl (mx_dd dd_X12_formatLine 29 (49, .invokevirtual 446, 3) rfl) g2 (by decide) P (fun v8 h9 P => ?_)
        obtain ⟨g9, P⟩ := P
        refine mx_cVI (pc := 52) (Y := mY_X12_shows) (As := [.int _]) mx_ml_X12_712 mx_y_X12_shows rfl g9 (by decide) rfl (by decide) rfl (mx_dd dd_X12_formatLine 30 (52, .invokevirtual 712, 3) rfl) g2 (by decide) P (fun v9 h10 P => ?_)
        exact mx_ireturn (pc := 55) (mx_dd dd_X12_formatLine 31 (55, .ireturn, 1) rfl) rfl rfl P
      · have P := P.2 c38
        refine mx_sel [] rfl ?_
        exact P
theorem b_X12_formatLine_41 {d : Nat} {h : mxH} {Q : mxRes → mxH → Prop} 
    (P : Q (.inl (some (.int (0 : Int32)))) h) : mx_SX mY_X12_formatLine d 41 [] [] h Q := by
  refine mx_iconst (pc := 41) (v := (0 : Int32)) (mx_dd dd_X12_formatLine 23 (41, .iconst 0, 1) rfl) (by decide) ?_
  refine mx_goto (pc := 42) 55 (mx_dd dd_X12_formatLine 24 (42, .goto 13, 3) rfl) rfl ?_
  exact mx_ireturn (pc := 55) (mx_dd dd_X12_formatLine 31 (55, .ireturn, 1) rfl) rfl rfl P
theorem b_X12_formatOutput {d : Nat} {h : mxH} {Q : mxRes → mxH → Prop} (x0 : Nat) (x1 : Int32)
    (P : hpK h x0 = 12 ∧ ∀ h1 : mxH, h1 = hsI h x0 0 (0 : Int32) → ∃ b1 : Nat, hpR h1 x0 56 = some b1 ∧ hpK h1 b1 = 14 ∧ vp_in (370 : Int32) (hpZ h1 b1) ∧ 1 ≤ d ∧ mx_SM mY_X12_in (d - 1) [.int x1, .int (0 : Int32), .int ((hpI h1 b1 (370 : Int32).toNatClampNeg) - (1 : Int32))] h1 (mx_KI (fun v1 h2 => ((¬ v1 = 0 → hpK h2 x0 = 12 ∧ mx_SM mY_X12_throwsIf (d - 1) [.ref x0, .int (0 : Int32), .int (1 : Int32)] h2 (mx_KI (fun v2 h3 => ((v2 = 0 → hpK h3 x0 = 12 ∧ ∃ b2 : Nat, hpR h3 x0 56 = some b2 ∧ hpK h3 b2 = 14 ∧ vp_in ((371 : Int32) + x1) (hpZ h3 b2) ∧ mx_SM mY_X12_shows (d - 1) [.ref x0, .int (hpI h3 b2 ((371 : Int32) + x1).toNatClampNeg)] h3 (mx_KI (fun v3 h4 => Q (.inl (some (.int v3))) h4) (mx_XX mY_X12_formatOutput Q))) ∧ (¬ v2 = 0 → Q (.inl (some (.int (0 : Int32)))) h3))) (mx_XX mY_X12_formatOutput Q))) ∧ (v1 = 0 → hpK h2 x0 = 12 ∧ mx_SM mY_X12_throwsIf (d - 1) [.ref x0, .int (1 : Int32), .int (1 : Int32)] h2 (mx_KI (fun v4 h5 => ((v4 = 0 → hpK h5 x0 = 12 ∧ ∃ b3 : Nat, hpR h5 x0 56 = some b3 ∧ hpK h5 b3 = 14 ∧ vp_in ((371 : Int32) + x1) (hpZ h5 b3) ∧ mx_SM mY_X12_shows (d - 1) [.ref x0, .int (hpI h5 b3 ((371 : Int32) + x1).toNatClampNeg)] h5 (mx_KI (fun v5 h6 => Q (.inl (some (.int v5))) h6) (mx_XX mY_X12_formatOutput Q))) ∧ (¬ v4 = 0 → Q (.inl (some (.int (0 : Int32)))) h5))) (mx_XX mY_X12_formatOutput Q))))) (mx_XX mY_X12_formatOutput Q))) : mx_SM mY_X12_formatOutput d [.ref x0, .int x1] h Q := by
  refine mx_SM_of (by decide) (Nat.le_of_ble_eq_true rfl) ?_
  show mx_SX mY_X12_formatOutput d 0 [(0, .ref x0), (1, .int x1)] [] h Q
  refine mx_aload_n (pc := 0) 0 (mx_dd dd_X12_formatOutput 0 (0, .aload_n 0, 1) rfl) rfl rfl ?_
  refine mx_iconst (pc := 1) (v := (0 : Int32)) (mx_dd dd_X12_formatOutput 1 (1, .iconst 0, 1) rfl) (by decide) ?_
  obtain ⟨g1, P⟩ := P
  refine mx_putI (pc := 2) mx_fl_X12_3 g1 rfl (.inl rfl) rfl rfl (mx_dd dd_X12_formatOutput 2 (2, .putfield 3, 3) rfl) ?_
  have P := P _ rfl
  refine mx_aload_n (pc := 5) 0 (mx_dd dd_X12_formatOutput 3 (5, .aload_n 0, 1) rfl) rfl rfl ?_
  refine mx_iload_n (pc := 6) 1 (mx_dd dd_X12_formatOutput 4 (6, .iload_n 1, 1) rfl) rfl rfl ?_
  refine mx_iconst (pc := 7) (v := (0 : Int32)) (mx_dd dd_X12_formatOutput 5 (7, .iconst 0, 1) rfl) (by decide) ?_
  refine mx_aload_n (pc := 8) 0 (mx_dd dd_X12_formatOutput 6 (8, .aload_n 0, 1) rfl) rfl rfl ?_
  obtain ⟨b1, g2, P⟩ := P
  refine mx_getR (pc := 9) mx_fl_X12_312 g1 rfl g2 (mx_dd dd_X12_formatOutput 7 (9, .getfield 312, 3) rfl) ?_
  refine mx_sipush (pc := 12) (v := (370 : Int32)) (mx_dd dd_X12_formatOutput 8 (12, .sipush 370, 3) rfl) (by decide) ?_
  obtain ⟨g3, P⟩ := P
  obtain ⟨g4, P⟩ := P
  refine mx_iald (pc := 15) g3 g4 (mx_dd dd_X12_formatOutput 9 (15, .iaload, 1) rfl) ?_
  refine mx_iconst (pc := 16) (v := (1 : Int32)) (mx_dd dd_X12_formatOutput 10 (16, .iconst 1, 1) rfl) (by decide) ?_
  refine mx_isub (pc := 17) (mx_dd dd_X12_formatOutput 11 (17, .isub, 1) rfl) ?_
  obtain ⟨g5, P⟩ := P
  refine mx_cSI (pc := 18) (Y := mY_X12_in) (As := [.int _, .int _, .int _]) mx_ml_X12_571 mx_y_X12_in rfl rfl (by simp [Value.category]) rfl (mx_dd dd_X12_formatOutput 12 (18, .invokestatic 571, 3) rfl) g5 (by decide) P (fun v1 h2 P => ?_)
  refine mx_if_ne (pc := 21) 28 (mx_dd dd_X12_formatOutput 13 (21, .ifCond .ne 7, 3) rfl) rfl (fun c21 => ?_) (fun c21 => ?_)
  · have P := P.1 c21
    refine mx_iconst (pc := 28) (v := (0 : Int32)) (mx_dd dd_X12_formatOutput 16 (28, .iconst 0, 1) rfl) (by decide) ?_
    refine mx_iconst (pc := 29) (v := (1 : Int32)) (mx_dd dd_X12_formatOutput 17 (29, .iconst 1, 1) rfl) (by decide) ?_
    obtain ⟨g6, P⟩ := P
    refine mx_cVI (pc := 30) (Y := mY_X12_throwsIf) (As := [.int _, .int _]) mx_ml_X12_274 mx_y_X12_throwsIf rfl g6 (by decide) rfl (by decide) rfl (mx_dd dd_X12_formatOutput 18 (30, .invokevirtual 274, 3) rfl) g5 (by decide) P (fun v2 h3 P => ?_)
    refine mx_if_eq (pc := 33) 40 (mx_dd dd_X12_formatOutput 19 (33, .ifCond .eq 7, 3) rfl) rfl (fun c33 => ?_) (fun c33 => ?_)
    · have P := P.1 c33
      refine mx_aload_n (pc := 40) 0 (mx_dd dd_X12_formatOutput 22 (40, .aload_n 0, 1) rfl) rfl rfl ?_
      refine mx_aload_n (pc := 41) 0 (mx_dd dd_X12_formatOutput 23 (41, .aload_n 0, 1) rfl) rfl rfl ?_
      obtain ⟨g7, P⟩ := P
      obtain ⟨b2, g8, P⟩ := P
      refine mx_getR (pc := 42) mx_fl_X12_312 g7 rfl g8 (mx_dd dd_X12_formatOutput 24 (42, .getfield 312, 3) rfl) ?_
      refine mx_sipush (pc := 45) (v := (371 : Int32)) (mx_dd dd_X12_formatOutput 25 (45, .sipush 371, 3) rfl) (by decide) ?_
      refine mx_iload_n (pc := 48) 1 (mx_dd dd_X12_formatOutput 26 (48, .iload_n 1, 1) rfl) rfl rfl ?_
      refine mx_iadd (pc := 49) (mx_dd dd_X12_formatOutput 27 (49, .iadd, 1) rfl) ?_
      obtain ⟨g9, P⟩ := P
      obtain ⟨g10, P⟩ := P
      refine mx_iald (pc := 50) g9 g10 (mx_dd dd_X12_formatOutput 28 (50, .iaload, 1) rfl) ?_
      refine mx_cVI (pc := 51) (Y := mY_X12_shows) (As := [.int _]) mx_ml_X12_712 mx_y_X12_shows rfl g7 (by decide) rfl (by decide) rfl (mx_dd dd_X12_formatOutput 29 (51, .invokevirtual 712, 3) rfl) g5 (by decide) P (fun v3 h4 P => ?_)
      exact mx_ireturn (pc := 54) (mx_dd dd_X12_formatOutput 30 (54, .ireturn, 1) rfl) rfl rfl P
    · have P := P.2 c33
      refine mx_iconst (pc := 36) (v := (0 : Int32)) (mx_dd dd_X12_formatOutput 20 (36, .iconst 0, 1) rfl) (by decide) ?_
      refine mx_goto (pc := 37) 54 (mx_dd dd_X12_formatOutput 21 (37, .goto 17, 3) rfl) rfl ?_
      exact mx_ireturn (pc := 54) (mx_dd dd_X12_formatOutput 30 (54, .ireturn, 1) rfl) rfl rfl P
  · have P := P.2 c21
    refine mx_iconst (pc := 24) (v := (1 : Int32)) (mx_dd dd_X12_formatOutput 14 (24, .iconst 1, 1) rfl) (by decide) ?_
    refine mx_goto (pc := 25) 29 (mx_dd dd_X12_formatOutput 15 (25, .goto 4, 3) rfl) rfl ?_
    refine mx_iconst (pc := 29) (v := (1 : Int32)) (mx_dd dd_X12_formatOutput 17 (29, .iconst 1, 1) rfl) (by decide) ?_
    obtain ⟨g11, P⟩ := P
    refine mx_cVI (pc := 30) (Y := mY_X12_throwsIf) (As := [.int _, .int _]) mx_ml_X12_274 mx_y_X12_throwsIf rfl g11 (by decide) rfl (by decide) rfl (mx_dd dd_X12_formatOutput 18 (30, .invokevirtual 274, 3) rfl) g5 (by decide) P (fun v4 h5 P => ?_)
    refine mx_if_eq (pc := 33) 40 (mx_dd dd_X12_formatOutput 19 (33, .ifCond .eq 7, 3) rfl) rfl (fun c33 => ?_) (fun c33 => ?_)
    · have P := P.1 c33
      refine mx_aload_n (pc := 40) 0 (mx_dd dd_X12_formatOutput 22 (40, .aload_n 0, 1) rfl) rfl rfl ?_
      refine mx_aload_n (pc := 41) 0 (mx_dd dd_X12_formatOutput 23 (41, .aload_n 0, 1) rfl) rfl rfl ?_
      obtain ⟨g12, P⟩ := P
      obtain ⟨b3, g13, P⟩ := P
      refine mx_getR (pc := 42) mx_fl_X12_312 g12 rfl g13 (mx_dd dd_X12_formatOutput 24 (42, .getfield 312, 3) rfl) ?_
      refine mx_sipush (pc := 45) (v := (371 : Int32)) (mx_dd dd_X12_formatOutput 25 (45, .sipush 371, 3) rfl) (by decide) ?_
      refine mx_iload_n (pc := 48) 1 (mx_dd dd_X12_formatOutput 26 (48, .iload_n 1, 1) rfl) rfl rfl ?_
      refine mx_iadd (pc := 49) (mx_dd dd_X12_formatOutput 27 (49, .iadd, 1) rfl) ?_
      obtain ⟨g14, P⟩ := P
      obtain ⟨g15, P⟩ := P
      refine mx_iald (pc := 50) g14 g15 (mx_dd dd_X12_formatOutput 28 (50, .iaload, 1) rfl) ?_
      refine mx_cVI (pc := 51) (Y := mY_X12_shows) (As := [.int _]) mx_ml_X12_712 mx_y_X12_shows rfl g12 (by decide) rfl (by decide) rfl (mx_dd dd_X12_formatOutput 29 (51, .invokevirtual 712, 3) rfl) g5 (by decide) P (fun v5 h6 P => ?_)
      exact mx_ireturn (pc := 54) (mx_dd dd_X12_formatOutput 30 (54, .ireturn, 1) rfl) rfl rfl P
    · have P := P.2 c33
      refine mx_iconst (pc := 36) (v := (0 : Int32)) (mx_dd dd_X12_formatOutput 20 (36, .iconst 0, 1) rfl) (by decide) ?_
      refine mx_goto (pc := 37) 54 (mx_dd dd_X12_formatOutput 21 (37, .goto 17, 3) rfl) rfl ?_
      exact mx_ireturn (pc := 54) (mx_dd dd_X12_formatOutput 30 (54, .ireturn, 1) rfl) rfl rfl P
theorem b_X12_formatVariable {d : Nat} {h : mxH} {Q : mxRes → mxH → Prop} (x0 : Nat) (x1 : Int64)
    (P : hpK h x0 = 12 ∧ ∀ h1 : mxH, h1 = hsI h x0 0 (0 : Int32) → 1 ≤ d ∧ mx_SM mY_X12_variableOf (d - 1) [.ref x0, .int (0 : Int32), .long x1] h1 (mx_KI (fun v1 h2 => ((¬ v1 = (-1 : Int32) → hpK h2 x0 = 12 ∧ mx_SM mY_X12_of (d - 1) [.ref x0, .int (0 : Int32), .int ((1 : Int32) + v1)] h2 (mx_KI (fun v2 h3 => hpK h3 x0 = 12 ∧ mx_SM mY_X12_shows (d - 1) [.ref x0, .int v2] h3 (mx_KI (fun v3 h4 => Q (.inl (some (.int v3))) h4) (mx_XX mY_X12_formatVariable Q))) (mx_XX mY_X12_formatVariable Q))) ∧ (v1 = (-1 : Int32) → Q (.inl (some (.int (-1 : Int32)))) h2))) (mx_XX mY_X12_formatVariable Q))) : mx_SM mY_X12_formatVariable d [.ref x0, .long x1] h Q := by
  refine mx_SM_of (by decide) (Nat.le_of_ble_eq_true rfl) ?_
  show mx_SX mY_X12_formatVariable d 0 [(0, .ref x0), (1, .long x1)] [] h Q
  refine mx_aload_n (pc := 0) 0 (mx_dd dd_X12_formatVariable 0 (0, .aload_n 0, 1) rfl) rfl rfl ?_
  refine mx_iconst (pc := 1) (v := (0 : Int32)) (mx_dd dd_X12_formatVariable 1 (1, .iconst 0, 1) rfl) (by decide) ?_
  obtain ⟨g1, P⟩ := P
  refine mx_putI (pc := 2) mx_fl_X12_3 g1 rfl (.inl rfl) rfl rfl (mx_dd dd_X12_formatVariable 2 (2, .putfield 3, 3) rfl) ?_
  have P := P _ rfl
  refine mx_aload_n (pc := 5) 0 (mx_dd dd_X12_formatVariable 3 (5, .aload_n 0, 1) rfl) rfl rfl ?_
  refine mx_iconst (pc := 6) (v := (0 : Int32)) (mx_dd dd_X12_formatVariable 4 (6, .iconst 0, 1) rfl) (by decide) ?_
  refine mx_lload_n (pc := 7) 1 (mx_dd dd_X12_formatVariable 5 (7, .lload_n 1, 1) rfl) rfl rfl ?_
  obtain ⟨g2, P⟩ := P
  refine mx_cVI (pc := 8) (Y := mY_X12_variableOf) (As := [.int _, .long _]) mx_ml_X12_433 mx_y_X12_variableOf rfl g1 (by decide) rfl (by decide) rfl (mx_dd dd_X12_formatVariable 6 (8, .invokevirtual 433, 3) rfl) g2 (by decide) P (fun v1 h2 P => ?_)
  refine mx_istore_n (pc := 11) (mx_dd dd_X12_formatVariable 7 (11, .istore_n 3, 1) rfl) rfl (by decide) (lv' := [(3, _), (0, _), (1, _)]) rfl ?_
  refine mx_iload_n (pc := 12) 0 (mx_dd dd_X12_formatVariable 8 (12, .iload_n 3, 1) rfl) rfl rfl ?_
  refine mx_iconst (pc := 13) (v := (-1 : Int32)) (mx_dd dd_X12_formatVariable 9 (13, .iconst (-1), 1) rfl) (by decide) ?_
  refine mx_icmp_ne (pc := 14) 21 (mx_dd dd_X12_formatVariable 10 (14, .if_icmp .ne 7, 3) rfl) rfl (fun c14 => ?_) (fun c14 => ?_)
  · have P := P.1 c14
    refine mx_aload_n (pc := 21) 1 (mx_dd dd_X12_formatVariable 13 (21, .aload_n 0, 1) rfl) rfl rfl ?_
    refine mx_aload_n (pc := 22) 1 (mx_dd dd_X12_formatVariable 14 (22, .aload_n 0, 1) rfl) rfl rfl ?_
    refine mx_iconst (pc := 23) (v := (0 : Int32)) (mx_dd dd_X12_formatVariable 15 (23, .iconst 0, 1) rfl) (by decide) ?_
    refine mx_iconst (pc := 24) (v := (1 : Int32)) (mx_dd dd_X12_formatVariable 16 (24, .iconst 1, 1) rfl) (by decide) ?_
    refine mx_iload_n (pc := 25) 0 (mx_dd dd_X12_formatVariable 17 (25, .iload_n 3, 1) rfl) rfl rfl ?_
    refine mx_iadd (pc := 26) (mx_dd dd_X12_formatVariable 18 (26, .iadd, 1) rfl) ?_
    obtain ⟨g3, P⟩ := P
    refine mx_cVI (pc := 27) (Y := mY_X12_of) (As := [.int _, .int _]) mx_ml_X12_416 mx_y_X12_of rfl g3 (by decide) rfl (by simp [Value.category]) rfl (mx_dd dd_X12_formatVariable 19 (27, .invokevirtual 416, 3) rfl) g2 (by decide) P (fun v2 h3 P => ?_)
    obtain ⟨g4, P⟩ := P
    refine mx_cVI (pc := 30) (Y := mY_X12_shows) (As := [.int _]) mx_ml_X12_712 mx_y_X12_shows rfl g4 (by decide) rfl (by decide) rfl (mx_dd dd_X12_formatVariable 20 (30, .invokevirtual 712, 3) rfl) g2 (by decide) P (fun v3 h4 P => ?_)
    exact mx_ireturn (pc := 33) (mx_dd dd_X12_formatVariable 21 (33, .ireturn, 1) rfl) rfl rfl P
  · have P := P.2 c14
    refine mx_iconst (pc := 17) (v := (-1 : Int32)) (mx_dd dd_X12_formatVariable 11 (17, .iconst (-1), 1) rfl) (by decide) ?_
    refine mx_goto (pc := 18) 33 (mx_dd dd_X12_formatVariable 12 (18, .goto 15, 3) rfl) rfl ?_
    exact mx_ireturn (pc := 33) (mx_dd dd_X12_formatVariable 21 (33, .ireturn, 1) rfl) rfl rfl P
theorem b_X12_formatHandles {d : Nat} {h : mxH} {Q : mxRes → mxH → Prop} (x0 : Nat)
    (P : hpK h x0 = 12 ∧ ∀ h1 : mxH, h1 = hsI h x0 0 (0 : Int32) → ∀ h2 : mxH, h2 = hsI h1 x0 84 (10 : Int32) → mx_SX mY_X12_formatHandles d 13 [(0, .ref x0), (1, .int (0 : Int32))] [] h2 Q) : mx_SM mY_X12_formatHandles d [.ref x0] h Q := by
  refine mx_SM_of (by decide) (Nat.le_of_ble_eq_true rfl) ?_
  show mx_SX mY_X12_formatHandles d 0 [(0, .ref x0)] [] h Q
  refine mx_aload_n (pc := 0) 0 (mx_dd dd_X12_formatHandles 0 (0, .aload_n 0, 1) rfl) rfl rfl ?_
  refine mx_iconst (pc := 1) (v := (0 : Int32)) (mx_dd dd_X12_formatHandles 1 (1, .iconst 0, 1) rfl) (by decide) ?_
  obtain ⟨g1, P⟩ := P
  refine mx_putI (pc := 2) mx_fl_X12_3 g1 rfl (.inl rfl) rfl rfl (mx_dd dd_X12_formatHandles 2 (2, .putfield 3, 3) rfl) ?_
  have P := P _ rfl
  refine mx_aload_n (pc := 5) 0 (mx_dd dd_X12_formatHandles 3 (5, .aload_n 0, 1) rfl) rfl rfl ?_
  refine mx_bipush (pc := 6) (v := (10 : Int32)) (mx_dd dd_X12_formatHandles 4 (6, .bipush 10, 2) rfl) (by decide) ?_
  refine mx_putI (pc := 8) mx_fl_X12_709 g1 rfl (.inl rfl) rfl rfl (mx_dd dd_X12_formatHandles 5 (8, .putfield 709, 3) rfl) ?_
  have P := P _ rfl
  refine mx_iconst (pc := 11) (v := (0 : Int32)) (mx_dd dd_X12_formatHandles 6 (11, .iconst 0, 1) rfl) (by decide) ?_
  refine mx_istore_n (pc := 12) (mx_dd dd_X12_formatHandles 7 (12, .istore_n 1, 1) rfl) rfl (by decide) (lv' := [(1, _), (0, _)]) rfl ?_
  refine mx_sel [1, 0] rfl ?_
  exact P
theorem b_X12_formatHandles_13 {d : Nat} {h : mxH} {Q : mxRes → mxH → Prop} (x0 : Nat) (x1 : Int32)
    (P : (((10 : Int32) ≤ x1 → Q (.inl (some (.int (10 : Int32)))) h) ∧ (¬ (10 : Int32) ≤ x1 → 1 ≤ d ∧ hpK h x0 = 12 ∧ mx_SM mY_X12_kindOf (d - 1) [.ref x0, .int x1] h (mx_KI (fun v1 h1 => hpK h1 x0 = 12 ∧ ∃ b1 : Nat, hpR h1 x0 83 = some b1 ∧ ((¬ v1 = 0 → ((¬ v1 = (1 : Int32) → ((¬ v1 = (2 : Int32) → ((¬ v1 = (3 : Int32) → hpK h1 b1 = 13 ∧ vp_in x1 (hpZ h1 b1) ∧ ∀ h2 : mxH, h2 = hsI h1 b1 x1.toNatClampNeg ((97 : Int32).toInt8.toInt32).toInt8.toInt32 → mx_SX mY_X12_formatHandles d 13 [(0, .ref x0), (1, .int (x1 + (1 : Int32)))] [] h2 Q) ∧ (v1 = (3 : Int32) → hpK h1 b1 = 13 ∧ vp_in x1 (hpZ h1 b1) ∧ ∀ h3 : mxH, h3 = hsI h1 b1 x1.toNatClampNeg ((119 : Int32).toInt8.toInt32).toInt8.toInt32 → mx_SX mY_X12_formatHandles d 13 [(0, .ref x0), (1, .int (x1 + (1 : Int32)))] [] h3 Q))) ∧ (v1 = (2 : Int32) → hpK h1 b1 = 13 ∧ vp_in x1 (hpZ h1 b1) ∧ ∀ h4 : mxH, h4 = hsI h1 b1 x1.toNatClampNeg ((114 : Int32).toInt8.toInt32).toInt8.toInt32 → mx_SX mY_X12_formatHandles d 13 [(0, .ref x0), (1, .int (x1 + (1 : Int32)))] [] h4 Q))) ∧ (v1 = (1 : Int32) → hpK h1 b1 = 13 ∧ vp_in x1 (hpZ h1 b1) ∧ ∀ h5 : mxH, h5 = hsI h1 b1 x1.toNatClampNeg ((116 : Int32).toInt8.toInt32).toInt8.toInt32 → mx_SX mY_X12_formatHandles d 13 [(0, .ref x0), (1, .int (x1 + (1 : Int32)))] [] h5 Q))) ∧ (v1 = 0 → hpK h1 b1 = 13 ∧ vp_in x1 (hpZ h1 b1) ∧ ∀ h6 : mxH, h6 = hsI h1 b1 x1.toNatClampNeg ((46 : Int32).toInt8.toInt32).toInt8.toInt32 → mx_SX mY_X12_formatHandles d 13 [(0, .ref x0), (1, .int (x1 + (1 : Int32)))] [] h6 Q))) (mx_XX mY_X12_formatHandles Q))))) : mx_SX mY_X12_formatHandles d 13 [(0, .ref x0), (1, .int x1)] [] h Q := by
  refine mx_iload_n (pc := 13) 1 (mx_dd dd_X12_formatHandles 8 (13, .iload_n 1, 1) rfl) rfl rfl ?_
  refine mx_bipush (pc := 14) (v := (10 : Int32)) (mx_dd dd_X12_formatHandles 9 (14, .bipush 10, 2) rfl) (by decide) ?_
  refine mx_icmp_ge (pc := 16) 79 (mx_dd dd_X12_formatHandles 10 (16, .if_icmp .ge 63, 3) rfl) rfl (fun c16 => ?_) (fun c16 => ?_)
  · have P := P.1 c16
    refine mx_bipush (pc := 79) (v := (10 : Int32)) (mx_dd dd_X12_formatHandles 42 (79, .bipush 10, 2) rfl) (by decide) ?_
    exact mx_ireturn (pc := 81) (mx_dd dd_X12_formatHandles 43 (81, .ireturn, 1) rfl) rfl rfl P
  · have P := P.2 c16
    refine mx_aload_n (pc := 19) 0 (mx_dd dd_X12_formatHandles 11 (19, .aload_n 0, 1) rfl) rfl rfl ?_
    refine mx_iload_n (pc := 20) 1 (mx_dd dd_X12_formatHandles 12 (20, .iload_n 1, 1) rfl) rfl rfl ?_
    obtain ⟨g1, P⟩ := P
    obtain ⟨g2, P⟩ := P
    refine mx_cVI (pc := 21) (Y := mY_X12_kindOf) (As := [.int _]) mx_ml_X12_703 mx_y_X12_kindOf rfl g2 (by decide) rfl (by decide) rfl (mx_dd dd_X12_formatHandles 13 (21, .invokevirtual 703, 3) rfl) g1 (by decide) P (fun v1 h1 P => ?_)
    refine mx_istore_n (pc := 24) (mx_dd dd_X12_formatHandles 14 (24, .istore_n 2, 1) rfl) rfl (by decide) (lv' := [(2, _), (0, _), (1, _)]) rfl ?_
    refine mx_aload_n (pc := 25) 1 (mx_dd dd_X12_formatHandles 15 (25, .aload_n 0, 1) rfl) rfl rfl ?_
    obtain ⟨g3, P⟩ := P
    obtain ⟨b1, g4, P⟩ := P
    refine mx_getR (pc := 26) mx_fl_X12_691 g3 rfl g4 (mx_dd dd_X12_formatHandles 16 (26, .getfield 691, 3) rfl) ?_
    refine mx_iload_n (pc := 29) 2 (mx_dd dd_X12_formatHandles 17 (29, .iload_n 1, 1) rfl) rfl rfl ?_
    refine mx_iload_n (pc := 30) 0 (mx_dd dd_X12_formatHandles 18 (30, .iload_n 2, 1) rfl) rfl rfl ?_
    refine mx_if_ne (pc := 31) 39 (mx_dd dd_X12_formatHandles 19 (31, .ifCond .ne 8, 3) rfl) rfl (fun c31 => ?_) (fun c31 => ?_)
    · have P := P.1 c31
      refine mx_iload_n (pc := 39) 0 (mx_dd dd_X12_formatHandles 22 (39, .iload_n 2, 1) rfl) rfl rfl ?_
      refine mx_iconst (pc := 40) (v := (1 : Int32)) (mx_dd dd_X12_formatHandles 23 (40, .iconst 1, 1) rfl) (by decide) ?_
      refine mx_icmp_ne (pc := 41) 49 (mx_dd dd_X12_formatHandles 24 (41, .if_icmp .ne 8, 3) rfl) rfl (fun c41 => ?_) (fun c41 => ?_)
      · have P := P.1 c41
        refine mx_iload_n (pc := 49) 0 (mx_dd dd_X12_formatHandles 27 (49, .iload_n 2, 1) rfl) rfl rfl ?_
        refine mx_iconst (pc := 50) (v := (2 : Int32)) (mx_dd dd_X12_formatHandles 28 (50, .iconst 2, 1) rfl) (by decide) ?_
        refine mx_icmp_ne (pc := 51) 59 (mx_dd dd_X12_formatHandles 29 (51, .if_icmp .ne 8, 3) rfl) rfl (fun c51 => ?_) (fun c51 => ?_)
        · have P := P.1 c51
          refine mx_iload_n (pc := 59) 0 (mx_dd dd_X12_formatHandles 32 (59, .iload_n 2, 1) rfl) rfl rfl ?_
          refine mx_iconst (pc := 60) (v := (3 : Int32)) (mx_dd dd_X12_formatHandles 33 (60, .iconst 3, 1) rfl) (by decide) ?_
          refine mx_icmp_ne (pc := 61) 69 (mx_dd dd_X12_formatHandles 34 (61, .if_icmp .ne 8, 3) rfl) rfl (fun c61 => ?_) (fun c61 => ?_)
          · have P := P.1 c61
            refine mx_bipush (pc := 69) (v := (97 : Int32)) (mx_dd dd_X12_formatHandles 37 (69, .bipush 97, 2) rfl) (by decide) ?_
            refine mx_i2b (pc := 71) (mx_dd dd_X12_formatHandles 38 (71, .i2b, 1) rfl) ?_
            obtain ⟨g5, P⟩ := P
            obtain ⟨g6, P⟩ := P
            refine mx_bast (pc := 72) g5 g6 (mx_dd dd_X12_formatHandles 39 (72, .bastore, 1) rfl) ?_
            have P := P _ rfl
            refine mx_iinc (pc := 73) 2 (mx_dd dd_X12_formatHandles 40 (73, .iinc 1 1, 3) rfl) rfl (mx_kadd (by decide : Int32.ofInt 1 = (1 : Int32))) (by decide) (lv' := [(1, _), (2, _), (0, _)]) rfl ?_
            refine mx_goto (pc := 76) 13 (mx_dd dd_X12_formatHandles 41 (76, .goto (-63), 3) rfl) rfl ?_
            refine mx_sel [2, 0] rfl ?_
            exact P
          · have P := P.2 c61
            refine mx_bipush (pc := 64) (v := (119 : Int32)) (mx_dd dd_X12_formatHandles 35 (64, .bipush 119, 2) rfl) (by decide) ?_
            refine mx_goto (pc := 66) 71 (mx_dd dd_X12_formatHandles 36 (66, .goto 5, 3) rfl) rfl ?_
            refine mx_i2b (pc := 71) (mx_dd dd_X12_formatHandles 38 (71, .i2b, 1) rfl) ?_
            obtain ⟨g7, P⟩ := P
            obtain ⟨g8, P⟩ := P
            refine mx_bast (pc := 72) g7 g8 (mx_dd dd_X12_formatHandles 39 (72, .bastore, 1) rfl) ?_
            have P := P _ rfl
            refine mx_iinc (pc := 73) 2 (mx_dd dd_X12_formatHandles 40 (73, .iinc 1 1, 3) rfl) rfl (mx_kadd (by decide : Int32.ofInt 1 = (1 : Int32))) (by decide) (lv' := [(1, _), (2, _), (0, _)]) rfl ?_
            refine mx_goto (pc := 76) 13 (mx_dd dd_X12_formatHandles 41 (76, .goto (-63), 3) rfl) rfl ?_
            refine mx_sel [2, 0] rfl ?_
            exact P
        · have P := P.2 c51
          refine mx_bipush (pc := 54) (v := (114 : Int32)) (mx_dd dd_X12_formatHandles 30 (54, .bipush 114, 2) rfl) (by decide) ?_
          refine mx_goto (pc := 56) 71 (mx_dd dd_X12_formatHandles 31 (56, .goto 15, 3) rfl) rfl ?_
          refine mx_i2b (pc := 71) (mx_dd dd_X12_formatHandles 38 (71, .i2b, 1) rfl) ?_
          obtain ⟨g9, P⟩ := P
          obtain ⟨g10, P⟩ := P
          refine mx_bast (pc := 72) g9 g10 (mx_dd dd_X12_formatHandles 39 (72, .bastore, 1) rfl) ?_
          have P := P _ rfl
          refine mx_iinc (pc := 73) 2 (mx_dd dd_X12_formatHandles 40 (73, .iinc 1 1, 3) rfl) rfl (mx_kadd (by decide : Int32.ofInt 1 = (1 : Int32))) (by decide) (lv' := [(1, _), (2, _), (0, _)]) rfl ?_
          refine mx_goto (pc := 76) 13 (mx_dd dd_X12_formatHandles 41 (76, .goto (-63), 3) rfl) rfl ?_
          refine mx_sel [2, 0] rfl ?_
          exact P
      · have P := P.2 c41
        refine mx_bipush (pc := 44) (v := (116 : Int32)) (mx_dd dd_X12_formatHandles 25 (44, .bipush 116, 2) rfl) (by decide) ?_
        refine mx_goto (pc := 46) 71 (mx_dd dd_X12_formatHandles 26 (46, .goto 25, 3) rfl) rfl ?_
        refine mx_i2b (pc := 71) (mx_dd dd_X12_formatHandles 38 (71, .i2b, 1) rfl) ?_
        obtain ⟨g11, P⟩ := P
        obtain ⟨g12, P⟩ := P
        refine mx_bast (pc := 72) g11 g12 (mx_dd dd_X12_formatHandles 39 (72, .bastore, 1) rfl) ?_
        have P := P _ rfl
        refine mx_iinc (pc := 73) 2 (mx_dd dd_X12_formatHandles 40 (73, .iinc 1 1, 3) rfl) rfl (mx_kadd (by decide : Int32.ofInt 1 = (1 : Int32))) (by decide) (lv' := [(1, _), (2, _), (0, _)]) rfl ?_
        refine mx_goto (pc := 76) 13 (mx_dd dd_X12_formatHandles 41 (76, .goto (-63), 3) rfl) rfl ?_
        refine mx_sel [2, 0] rfl ?_
        exact P
    · have P := P.2 c31
      refine mx_bipush (pc := 34) (v := (46 : Int32)) (mx_dd dd_X12_formatHandles 20 (34, .bipush 46, 2) rfl) (by decide) ?_
      refine mx_goto (pc := 36) 71 (mx_dd dd_X12_formatHandles 21 (36, .goto 35, 3) rfl) rfl ?_
      refine mx_i2b (pc := 71) (mx_dd dd_X12_formatHandles 38 (71, .i2b, 1) rfl) ?_
      obtain ⟨g13, P⟩ := P
      obtain ⟨g14, P⟩ := P
      refine mx_bast (pc := 72) g13 g14 (mx_dd dd_X12_formatHandles 39 (72, .bastore, 1) rfl) ?_
      have P := P _ rfl
      refine mx_iinc (pc := 73) 2 (mx_dd dd_X12_formatHandles 40 (73, .iinc 1 1, 3) rfl) rfl (mx_kadd (by decide : Int32.ofInt 1 = (1 : Int32))) (by decide) (lv' := [(1, _), (2, _), (0, _)]) rfl ?_
      refine mx_goto (pc := 76) 13 (mx_dd dd_X12_formatHandles 41 (76, .goto (-63), 3) rfl) rfl ?_
      refine mx_sel [2, 0] rfl ?_
      exact P
theorem b_X12_formatName {d : Nat} {h : mxH} {Q : mxRes → mxH → Prop} (x0 : Nat) (x1 : Int32)
    (P : hpK h x0 = 12 ∧ ∀ h1 : mxH, h1 = hsI h x0 0 (0 : Int32) → 1 ≤ d ∧ mx_SM mY_X12_noFile (d - 1) [.ref x0, .int x1] h1 (mx_KI (fun v1 h2 => ((v1 = 0 → hpK h2 x0 = 12 ∧ ∀ h3 : mxH, h3 = hsI h2 x0 78 (0 : Int32) → ∃ b1 : Nat, hpR h3 x0 57 = some b1 ∧ hpK h3 b1 = 15 ∧ vp_in x1 (hpZ h3 b1) ∧ mx_SM mY_X12_saysWord (d - 1) [.ref x0, .long (hpL h3 b1 x1.toNatClampNeg)] h3 (mx_KV (fun h4 => hpK h4 x0 = 12 ∧ ∀ h5 : mxH, h5 = hsI h4 x0 84 (hpI h4 x0 78) → mx_SX mY_X12_formatName d 40 [(0, .ref x0), (2, .int (0 : Int32))] [] h5 Q) (mx_XX mY_X12_formatName Q))) ∧ (¬ v1 = 0 → Q (.inl (some (.int (0 : Int32)))) h2))) (mx_XX mY_X12_formatName Q))) : mx_SM mY_X12_formatName d [.ref x0, .int x1] h Q := by
  refine mx_SM_of (by decide) (Nat.le_of_ble_eq_true rfl) ?_
  show mx_SX mY_X12_formatName d 0 [(0, .ref x0), (1, .int x1)] [] h Q
  refine mx_aload_n (pc := 0) 0 (mx_dd dd_X12_formatName 0 (0, .aload_n 0, 1) rfl) rfl rfl ?_
  refine mx_iconst (pc := 1) (v := (0 : Int32)) (mx_dd dd_X12_formatName 1 (1, .iconst 0, 1) rfl) (by decide) ?_
  obtain ⟨g1, P⟩ := P
  refine mx_putI (pc := 2) mx_fl_X12_3 g1 rfl (.inl rfl) rfl rfl (mx_dd dd_X12_formatName 2 (2, .putfield 3, 3) rfl) ?_
  have P := P _ rfl
  refine mx_aload_n (pc := 5) 0 (mx_dd dd_X12_formatName 3 (5, .aload_n 0, 1) rfl) rfl rfl ?_
  refine mx_iload_n (pc := 6) 1 (mx_dd dd_X12_formatName 4 (6, .iload_n 1, 1) rfl) rfl rfl ?_
  obtain ⟨g2, P⟩ := P
  refine mx_cVI (pc := 7) (Y := mY_X12_noFile) (As := [.int _]) mx_ml_X12_706 mx_y_X12_noFile rfl g1 (by decide) rfl (by decide) rfl (mx_dd dd_X12_formatName 5 (7, .invokevirtual 706, 3) rfl) g2 (by decide) P (fun v1 h2 P => ?_)
  refine mx_if_eq (pc := 10) 15 (mx_dd dd_X12_formatName 6 (10, .ifCond .eq 5, 3) rfl) rfl (fun c10 => ?_) (fun c10 => ?_)
  · have P := P.1 c10
    refine mx_aload_n (pc := 15) 0 (mx_dd dd_X12_formatName 9 (15, .aload_n 0, 1) rfl) rfl rfl ?_
    refine mx_iconst (pc := 16) (v := (0 : Int32)) (mx_dd dd_X12_formatName 10 (16, .iconst 0, 1) rfl) (by decide) ?_
    obtain ⟨g3, P⟩ := P
    refine mx_putI (pc := 17) mx_fl_X12_553 g3 rfl (.inl rfl) rfl rfl (mx_dd dd_X12_formatName 11 (17, .putfield 553, 3) rfl) ?_
    have P := P _ rfl
    refine mx_aload_n (pc := 20) 0 (mx_dd dd_X12_formatName 12 (20, .aload_n 0, 1) rfl) rfl rfl ?_
    refine mx_aload_n (pc := 21) 0 (mx_dd dd_X12_formatName 13 (21, .aload_n 0, 1) rfl) rfl rfl ?_
    obtain ⟨b1, g4, P⟩ := P
    refine mx_getR (pc := 22) mx_fl_X12_361 g3 rfl g4 (mx_dd dd_X12_formatName 14 (22, .getfield 361, 3) rfl) ?_
    refine mx_iload_n (pc := 25) 1 (mx_dd dd_X12_formatName 15 (25, .iload_n 1, 1) rfl) rfl rfl ?_
    obtain ⟨g5, P⟩ := P
    obtain ⟨g6, P⟩ := P
    refine mx_lald (pc := 26) g5 g6 (mx_dd dd_X12_formatName 16 (26, .laload, 1) rfl) ?_
    refine mx_cVV (pc := 27) (Y := mY_X12_saysWord) (As := [.long _]) mx_ml_X12_546 mx_y_X12_saysWord rfl g3 (by decide) rfl (by decide) rfl (mx_dd dd_X12_formatName 17 (27, .invokevirtual 546, 3) rfl) g2 (by decide) P (fun h4 P => ?_)
    refine mx_aload_n (pc := 30) 0 (mx_dd dd_X12_formatName 18 (30, .aload_n 0, 1) rfl) rfl rfl ?_
    refine mx_aload_n (pc := 31) 0 (mx_dd dd_X12_formatName 19 (31, .aload_n 0, 1) rfl) rfl rfl ?_
    obtain ⟨g7, P⟩ := P
    refine mx_getI (pc := 32) mx_fl_X12_553 g7 rfl (mx_dd dd_X12_formatName 20 (32, .getfield 553, 3) rfl) ?_
    refine mx_putI (pc := 35) mx_fl_X12_709 g7 rfl (.inl rfl) rfl rfl (mx_dd dd_X12_formatName 21 (35, .putfield 709, 3) rfl) ?_
    have P := P _ rfl
    refine mx_iconst (pc := 38) (v := (0 : Int32)) (mx_dd dd_X12_formatName 22 (38, .iconst 0, 1) rfl) (by decide) ?_
    refine mx_istore_n (pc := 39) (mx_dd dd_X12_formatName 23 (39, .istore_n 2, 1) rfl) rfl (by decide) (lv' := [(2, _), (0, _), (1, _)]) rfl ?_
    refine mx_sel [1, 0] rfl ?_
    exact P
  · have P := P.2 c10
    refine mx_iconst (pc := 13) (v := (0 : Int32)) (mx_dd dd_X12_formatName 7 (13, .iconst 0, 1) rfl) (by decide) ?_
    exact mx_ireturn (pc := 14) (mx_dd dd_X12_formatName 8 (14, .ireturn, 1) rfl) rfl rfl P
theorem b_X12_formatName_40 {d : Nat} {h : mxH} {Q : mxRes → mxH → Prop} (x0 : Nat) (x2 : Int32)
    (P : hpK h x0 = 12 ∧ (((hpI h x0 78) ≤ x2 → Q (.inl (some (.int (hpI h x0 84)))) h) ∧ (¬ (hpI h x0 78) ≤ x2 → ∃ b1 : Nat, hpR h x0 83 = some b1 ∧ ∃ b2 : Nat, hpR h x0 74 = some b2 ∧ hpK h b2 = 13 ∧ vp_in x2 (hpZ h b2) ∧ hpK h b1 = 13 ∧ vp_in x2 (hpZ h b1) ∧ ∀ h1 : mxH, h1 = hsI h b1 x2.toNatClampNeg (hpI h b2 x2.toNatClampNeg).toInt8.toInt32 → mx_SX mY_X12_formatName d 40 [(0, .ref x0), (2, .int (x2 + (1 : Int32)))] [] h1 Q))) : mx_SX mY_X12_formatName d 40 [(0, .ref x0), (2, .int x2)] [] h Q := by
  refine mx_iload_n (pc := 40) 1 (mx_dd dd_X12_formatName 24 (40, .iload_n 2, 1) rfl) rfl rfl ?_
  refine mx_aload_n (pc := 41) 0 (mx_dd dd_X12_formatName 25 (41, .aload_n 0, 1) rfl) rfl rfl ?_
  obtain ⟨g1, P⟩ := P
  refine mx_getI (pc := 42) mx_fl_X12_553 g1 rfl (mx_dd dd_X12_formatName 26 (42, .getfield 553, 3) rfl) ?_
  refine mx_icmp_ge (pc := 45) 66 (mx_dd dd_X12_formatName 27 (45, .if_icmp .ge 21, 3) rfl) rfl (fun c45 => ?_) (fun c45 => ?_)
  · have P := P.1 c45
    refine mx_aload_n (pc := 66) 0 (mx_dd dd_X12_formatName 38 (66, .aload_n 0, 1) rfl) rfl rfl ?_
    refine mx_getI (pc := 67) mx_fl_X12_709 g1 rfl (mx_dd dd_X12_formatName 39 (67, .getfield 709, 3) rfl) ?_
    exact mx_ireturn (pc := 70) (mx_dd dd_X12_formatName 40 (70, .ireturn, 1) rfl) rfl rfl P
  · have P := P.2 c45
    refine mx_aload_n (pc := 48) 0 (mx_dd dd_X12_formatName 28 (48, .aload_n 0, 1) rfl) rfl rfl ?_
    obtain ⟨b1, g2, P⟩ := P
    refine mx_getR (pc := 49) mx_fl_X12_691 g1 rfl g2 (mx_dd dd_X12_formatName 29 (49, .getfield 691, 3) rfl) ?_
    refine mx_iload_n (pc := 52) 1 (mx_dd dd_X12_formatName 30 (52, .iload_n 2, 1) rfl) rfl rfl ?_
    refine mx_aload_n (pc := 53) 0 (mx_dd dd_X12_formatName 31 (53, .aload_n 0, 1) rfl) rfl rfl ?_
    obtain ⟨b2, g3, P⟩ := P
    refine mx_getR (pc := 54) mx_fl_X12_550 g1 rfl g3 (mx_dd dd_X12_formatName 32 (54, .getfield 550, 3) rfl) ?_
    refine mx_iload_n (pc := 57) 1 (mx_dd dd_X12_formatName 33 (57, .iload_n 2, 1) rfl) rfl rfl ?_
    obtain ⟨g4, P⟩ := P
    obtain ⟨g5, P⟩ := P
    refine mx_bald (pc := 58) g4 g5 (mx_dd dd_X12_formatName 34 (58, .baload, 1) rfl) ?_
    obtain ⟨g6, P⟩ := P
    obtain ⟨g7, P⟩ := P
    refine mx_bast (pc := 59) g6 g7 (mx_dd dd_X12_formatName 35 (59, .bastore, 1) rfl) ?_
    have P := P _ rfl
    refine mx_iinc (pc := 60) 1 (mx_dd dd_X12_formatName 36 (60, .iinc 2 1, 3) rfl) rfl (mx_kadd (by decide : Int32.ofInt 1 = (1 : Int32))) (by decide) (lv' := [(2, _), (0, _)]) rfl ?_
    refine mx_goto (pc := 63) 40 (mx_dd dd_X12_formatName 37 (63, .goto (-23), 3) rfl) rfl ?_
    refine mx_sel [1, 0] rfl ?_
    exact P
theorem b_X12_formattedByte {d : Nat} {h : mxH} {Q : mxRes → mxH → Prop} (x0 : Nat) (x1 : Int32)
    (P : hpK h x0 = 12 ∧ ∀ h1 : mxH, h1 = hsI h x0 0 (0 : Int32) → 1 ≤ d ∧ mx_SM mY_X12_in (d - 1) [.int x1, .int (0 : Int32), .int ((hpI h1 x0 84) - (1 : Int32))] h1 (mx_KI (fun v1 h2 => ((v1 = 0 → Q (.inl (some (.int (-1 : Int32)))) h2) ∧ (¬ v1 = 0 → hpK h2 x0 = 12 ∧ ∃ b1 : Nat, hpR h2 x0 83 = some b1 ∧ hpK h2 b1 = 13 ∧ vp_in x1 (hpZ h2 b1) ∧ Q (.inl (some (.int ((hpI h2 b1 x1.toNatClampNeg) &&& (255 : Int32))))) h2))) (mx_XX mY_X12_formattedByte Q))) : mx_SM mY_X12_formattedByte d [.ref x0, .int x1] h Q := by
  refine mx_SM_of (by decide) (Nat.le_of_ble_eq_true rfl) ?_
  show mx_SX mY_X12_formattedByte d 0 [(0, .ref x0), (1, .int x1)] [] h Q
  refine mx_aload_n (pc := 0) 0 (mx_dd dd_X12_formattedByte 0 (0, .aload_n 0, 1) rfl) rfl rfl ?_
  refine mx_iconst (pc := 1) (v := (0 : Int32)) (mx_dd dd_X12_formattedByte 1 (1, .iconst 0, 1) rfl) (by decide) ?_
  obtain ⟨g1, P⟩ := P
  refine mx_putI (pc := 2) mx_fl_X12_3 g1 rfl (.inl rfl) rfl rfl (mx_dd dd_X12_formattedByte 2 (2, .putfield 3, 3) rfl) ?_
  have P := P _ rfl
  refine mx_iload_n (pc := 5) 1 (mx_dd dd_X12_formattedByte 3 (5, .iload_n 1, 1) rfl) rfl rfl ?_
  refine mx_iconst (pc := 6) (v := (0 : Int32)) (mx_dd dd_X12_formattedByte 4 (6, .iconst 0, 1) rfl) (by decide) ?_
  refine mx_aload_n (pc := 7) 0 (mx_dd dd_X12_formattedByte 5 (7, .aload_n 0, 1) rfl) rfl rfl ?_
  refine mx_getI (pc := 8) mx_fl_X12_709 g1 rfl (mx_dd dd_X12_formattedByte 6 (8, .getfield 709, 3) rfl) ?_
  refine mx_iconst (pc := 11) (v := (1 : Int32)) (mx_dd dd_X12_formattedByte 7 (11, .iconst 1, 1) rfl) (by decide) ?_
  refine mx_isub (pc := 12) (mx_dd dd_X12_formattedByte 8 (12, .isub, 1) rfl) ?_
  obtain ⟨g2, P⟩ := P
  refine mx_cSI (pc := 13) (Y := mY_X12_in) (As := [.int _, .int _, .int _]) mx_ml_X12_571 mx_y_X12_in rfl rfl (by decide) rfl (mx_dd dd_X12_formattedByte 9 (13, .invokestatic 571, 3) rfl) g2 (by decide) P (fun v1 h2 P => ?_)
  refine mx_if_eq (pc := 16) 32 (mx_dd dd_X12_formattedByte 10 (16, .ifCond .eq 16, 3) rfl) rfl (fun c16 => ?_) (fun c16 => ?_)
  · have P := P.1 c16
    refine mx_iconst (pc := 32) (v := (-1 : Int32)) (mx_dd dd_X12_formattedByte 18 (32, .iconst (-1), 1) rfl) (by decide) ?_
    exact mx_ireturn (pc := 33) (mx_dd dd_X12_formattedByte 19 (33, .ireturn, 1) rfl) rfl rfl P
  · have P := P.2 c16
    refine mx_aload_n (pc := 19) 0 (mx_dd dd_X12_formattedByte 11 (19, .aload_n 0, 1) rfl) rfl rfl ?_
    obtain ⟨g3, P⟩ := P
    obtain ⟨b1, g4, P⟩ := P
    refine mx_getR (pc := 20) mx_fl_X12_691 g3 rfl g4 (mx_dd dd_X12_formattedByte 12 (20, .getfield 691, 3) rfl) ?_
    refine mx_iload_n (pc := 23) 1 (mx_dd dd_X12_formattedByte 13 (23, .iload_n 1, 1) rfl) rfl rfl ?_
    obtain ⟨g5, P⟩ := P
    obtain ⟨g6, P⟩ := P
    refine mx_bald (pc := 24) g5 g6 (mx_dd dd_X12_formattedByte 14 (24, .baload, 1) rfl) ?_
    refine mx_sipush (pc := 25) (v := (255 : Int32)) (mx_dd dd_X12_formattedByte 15 (25, .sipush 255, 3) rfl) (by decide) ?_
    refine mx_iand (pc := 28) (mx_dd dd_X12_formattedByte 16 (28, .iand, 1) rfl) ?_
    refine mx_goto (pc := 29) 33 (mx_dd dd_X12_formattedByte 17 (29, .goto 4, 3) rfl) rfl ?_
    exact mx_ireturn (pc := 33) (mx_dd dd_X12_formattedByte 19 (33, .ireturn, 1) rfl) rfl rfl P
