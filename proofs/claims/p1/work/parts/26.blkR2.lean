/-! PRINTED by wip/whole/genblocks.py: the blocks of the reference -/
theorem b_X12_sweepsLines_98 {d : Nat} {h : mxH} {Q : mxRes → mxH → Prop} (x0 : Nat) (x1 : Int32) (x2 : Int32)
    (P : ((x2 = (-1 : Int32) → mx_SX mY_X12_sweepsLines d 84 [(0, .ref x0), (1, .int (x1 + (1 : Int32)))] [] h Q) ∧ (¬ x2 = (-1 : Int32) → hpK h x0 = 12 ∧ ∃ b1 : Nat, hpR h x0 64 = some b1 ∧ hpK h b1 = 14 ∧ vp_in x2 (hpZ h b1) ∧ 1 ≤ d ∧ mx_SM mY_X12_marks (d - 1) [.ref x0, .int (hpI h b1 x2.toNatClampNeg)] h (mx_KV (fun h1 => hpK h1 x0 = 12 ∧ ∃ b2 : Nat, hpR h1 x0 65 = some b2 ∧ hpK h1 b2 = 14 ∧ vp_in x2 (hpZ h1 b2) ∧ mx_SX mY_X12_sweepsLines d 98 [(0, .ref x0), (1, .int x1), (2, .int (hpI h1 b2 x2.toNatClampNeg))] [] h1 Q) (mx_XX mY_X12_sweepsLines Q))))) : mx_SX mY_X12_sweepsLines d 98 [(0, .ref x0), (1, .int x1), (2, .int x2)] [] h Q := by
  refine mx_iload_n (pc := 98) 2 (mx_dd dd_X12_sweepsLines_1 15 (98, .iload_n 2, 1) rfl) rfl rfl ?_
  refine mx_iconst (pc := 99) (v := (-1 : Int32)) (mx_dd dd_X12_sweepsLines_1 16 (99, .iconst (-1), 1) rfl) (by decide) ?_
  refine mx_icmp_eq (pc := 100) 123 (mx_dd dd_X12_sweepsLines_1 17 (100, .if_icmp .eq 23, 3) rfl) rfl (fun c100 => ?_) (fun c100 => ?_)
  · have P := P.1 c100
    refine mx_iinc (pc := 123) 1 (mx_dd dd_X12_sweepsLines_1 30 (123, .iinc 1 1, 3) rfl) rfl (mx_kadd (by decide : Int32.ofInt 1 = (1 : Int32))) (by decide) (lv' := [(1, _), (0, _), (2, _)]) rfl ?_
    refine mx_goto (pc := 126) 84 (mx_dd dd_X12_sweepsLines_1 31 (126, .goto (-42), 3) rfl) rfl ?_
    refine mx_sel [1, 0] rfl ?_
    exact P
  · have P := P.2 c100
    refine mx_aload_n (pc := 103) 0 (mx_dd dd_X12_sweepsLines_1 18 (103, .aload_n 0, 1) rfl) rfl rfl ?_
    refine mx_aload_n (pc := 104) 0 (mx_dd dd_X12_sweepsLines_1 19 (104, .aload_n 0, 1) rfl) rfl rfl ?_
    obtain ⟨g1, P⟩ := P
    obtain ⟨b1, g2, P⟩ := P
    refine mx_getR (pc := 105) mx_fl_X12_328 g1 rfl g2 (mx_dd dd_X12_sweepsLines_1 20 (105, .getfield 328, 3) rfl) ?_
    refine mx_iload_n (pc := 108) 2 (mx_dd dd_X12_sweepsLines_1 21 (108, .iload_n 2, 1) rfl) rfl rfl ?_
    obtain ⟨g3, P⟩ := P
    obtain ⟨g4, P⟩ := P
    refine mx_iald (pc := 109) g3 g4 (mx_dd dd_X12_sweepsLines_1 22 (109, .iaload, 1) rfl) ?_
    obtain ⟨g5, P⟩ := P
    refine mx_cVV (pc := 110) (Y := mY_X12_marks) (As := [.int _]) mx_ml_X12_331 mx_y_X12_marks rfl g1 (by decide) rfl (by decide) rfl (mx_dd dd_X12_sweepsLines_1 23 (110, .invokevirtual 331, 3) rfl) g5 (by decide) P (fun h1 P => ?_)
    refine mx_aload_n (pc := 113) 0 (mx_dd dd_X12_sweepsLines_1 24 (113, .aload_n 0, 1) rfl) rfl rfl ?_
    obtain ⟨g6, P⟩ := P
    obtain ⟨b2, g7, P⟩ := P
    refine mx_getR (pc := 114) mx_fl_X12_334 g6 rfl g7 (mx_dd dd_X12_sweepsLines_1 25 (114, .getfield 334, 3) rfl) ?_
    refine mx_iload_n (pc := 117) 2 (mx_dd dd_X12_sweepsLines_1 26 (117, .iload_n 2, 1) rfl) rfl rfl ?_
    obtain ⟨g8, P⟩ := P
    obtain ⟨g9, P⟩ := P
    refine mx_iald (pc := 118) g8 g9 (mx_dd dd_X12_sweepsLines_1 27 (118, .iaload, 1) rfl) ?_
    refine mx_istore_n (pc := 119) (mx_dd dd_X12_sweepsLines_1 28 (119, .istore_n 2, 1) rfl) rfl (by decide) (lv' := [(2, _), (0, _), (1, _)]) rfl ?_
    refine mx_goto (pc := 120) 98 (mx_dd dd_X12_sweepsLines_1 29 (120, .goto (-22), 3) rfl) rfl ?_
    refine mx_sel [1, 2, 0] rfl ?_
    exact P
theorem b_X12_sweepsLines_131 {d : Nat} {h : mxH} {Q : mxRes → mxH → Prop} (x0 : Nat) (x1 : Int32)
    (P : hpK h x0 = 12 ∧ (((hpI h x0 82) ≤ x1 → Q (.inl none) h) ∧ (¬ (hpI h x0 82) ≤ x1 → ∃ b1 : Nat, hpR h x0 80 = some b1 ∧ 1 ≤ d ∧ mx_SM mY_X12_marksWorld (d - 1) [.ref x0, .ref b1, .int ((778 : Int32) * x1)] h (mx_KV (fun h1 => hpK h1 x0 = 12 ∧ ∃ b2 : Nat, hpR h1 x0 80 = some b2 ∧ mx_SM mY_X12_marksShell (d - 1) [.ref x0, .ref b2, .int (((778 : Int32) * x1) + (471 : Int32))] h1 (mx_KV (fun h2 => mx_SX mY_X12_sweepsLines d 131 [(0, .ref x0), (1, .int (x1 + (1 : Int32)))] [] h2 Q) (mx_XX mY_X12_sweepsLines Q))) (mx_XX mY_X12_sweepsLines Q))))) : mx_SX mY_X12_sweepsLines d 131 [(0, .ref x0), (1, .int x1)] [] h Q := by
  refine mx_iload_n (pc := 131) 1 (mx_dd dd_X12_sweepsLines_1 34 (131, .iload_n 1, 1) rfl) rfl rfl ?_
  refine mx_aload_n (pc := 132) 0 (mx_dd dd_X12_sweepsLines_1 35 (132, .aload_n 0, 1) rfl) rfl rfl ?_
  obtain ⟨g1, P⟩ := P
  refine mx_getI (pc := 133) mx_fl_X12_337 g1 rfl (mx_dd dd_X12_sweepsLines_1 36 (133, .getfield 337, 3) rfl) ?_
  refine mx_icmp_ge (pc := 136) 175 (mx_dd dd_X12_sweepsLines_1 37 (136, .if_icmp .ge 39, 3) rfl) rfl (fun c136 => ?_) (fun c136 => ?_)
  · have P := P.1 c136
    exact mx_return (pc := 175) (mx_dd dd_X12_sweepsLines_2 16 (175, .return_, 1) rfl) rfl P
  · have P := P.2 c136
    refine mx_aload_n (pc := 139) 0 (mx_dd dd_X12_sweepsLines_1 38 (139, .aload_n 0, 1) rfl) rfl rfl ?_
    refine mx_aload_n (pc := 140) 0 (mx_dd dd_X12_sweepsLines_1 39 (140, .aload_n 0, 1) rfl) rfl rfl ?_
    obtain ⟨b1, g2, P⟩ := P
    refine mx_getR (pc := 141) mx_fl_X12_340 g1 rfl g2 (mx_dd dd_X12_sweepsLines_2 0 (141, .getfield 340, 3) rfl) ?_
    refine mx_sipush (pc := 144) (v := (778 : Int32)) (mx_dd dd_X12_sweepsLines_2 1 (144, .sipush 778, 3) rfl) (by decide) ?_
    refine mx_iload_n (pc := 147) 1 (mx_dd dd_X12_sweepsLines_2 2 (147, .iload_n 1, 1) rfl) rfl rfl ?_
    refine mx_imul (pc := 148) (mx_dd dd_X12_sweepsLines_2 3 (148, .imul, 1) rfl) ?_
    obtain ⟨g3, P⟩ := P
    refine mx_cVV (pc := 149) (Y := mY_X12_marksWorld) (As := [.ref _, .int _]) mx_ml_X12_315 mx_y_X12_marksWorld rfl g1 (by decide) rfl (by decide) rfl (mx_dd dd_X12_sweepsLines_2 4 (149, .invokevirtual 315, 3) rfl) g3 (by decide) P (fun h1 P => ?_)
    refine mx_aload_n (pc := 152) 0 (mx_dd dd_X12_sweepsLines_2 5 (152, .aload_n 0, 1) rfl) rfl rfl ?_
    refine mx_aload_n (pc := 153) 0 (mx_dd dd_X12_sweepsLines_2 6 (153, .aload_n 0, 1) rfl) rfl rfl ?_
    obtain ⟨g4, P⟩ := P
    obtain ⟨b2, g5, P⟩ := P
    refine mx_getR (pc := 154) mx_fl_X12_340 g4 rfl g5 (mx_dd dd_X12_sweepsLines_2 7 (154, .getfield 340, 3) rfl) ?_
    refine mx_sipush (pc := 157) (v := (778 : Int32)) (mx_dd dd_X12_sweepsLines_2 8 (157, .sipush 778, 3) rfl) (by decide) ?_
    refine mx_iload_n (pc := 160) 1 (mx_dd dd_X12_sweepsLines_2 9 (160, .iload_n 1, 1) rfl) rfl rfl ?_
    refine mx_imul (pc := 161) (mx_dd dd_X12_sweepsLines_2 10 (161, .imul, 1) rfl) ?_
    refine mx_sipush (pc := 162) (v := (471 : Int32)) (mx_dd dd_X12_sweepsLines_2 11 (162, .sipush 471, 3) rfl) (by decide) ?_
    refine mx_iadd (pc := 165) (mx_dd dd_X12_sweepsLines_2 12 (165, .iadd, 1) rfl) ?_
    refine mx_cVV (pc := 166) (Y := mY_X12_marksShell) (As := [.ref _, .int _]) mx_ml_X12_322 mx_y_X12_marksShell rfl g4 (by decide) rfl (by decide) rfl (mx_dd dd_X12_sweepsLines_2 13 (166, .invokevirtual 322, 3) rfl) g3 (by decide) P (fun h2 P => ?_)
    refine mx_iinc (pc := 169) 1 (mx_dd dd_X12_sweepsLines_2 14 (169, .iinc 1 1, 3) rfl) rfl (mx_kadd (by decide : Int32.ofInt 1 = (1 : Int32))) (by decide) (lv' := [(1, _), (0, _)]) rfl ?_
    refine mx_goto (pc := 172) 131 (mx_dd dd_X12_sweepsLines_2 15 (172, .goto (-41), 3) rfl) rfl ?_
    refine mx_sel [1, 0] rfl ?_
    exact P
theorem b_X12_marksWorld {d : Nat} {h : mxH} {Q : mxRes → mxH → Prop} (x0 : Nat) (x1 : Nat) (x2 : Int32)
    (P : mx_SX mY_X12_marksWorld d 2 [(0, .ref x0), (1, .ref x1), (2, .int x2), (3, .int (0 : Int32))] [] h Q) : mx_SM mY_X12_marksWorld d [.ref x0, .ref x1, .int x2] h Q := by
  refine mx_SM_of (by decide) (Nat.le_of_ble_eq_true rfl) ?_
  show mx_SX mY_X12_marksWorld d 0 [(0, .ref x0), (1, .ref x1), (2, .int x2)] [] h Q
  refine mx_iconst (pc := 0) (v := (0 : Int32)) (mx_dd dd_X12_marksWorld_0 0 (0, .iconst 0, 1) rfl) (by decide) ?_
  refine mx_istore_n (pc := 1) (mx_dd dd_X12_marksWorld_0 1 (1, .istore_n 3, 1) rfl) rfl (by decide) (lv' := [(3, _), (0, _), (1, _), (2, _)]) rfl ?_
  refine mx_sel [1, 2, 3, 0] rfl ?_
  exact P
theorem b_X12_marksWorld_2 {d : Nat} {h : mxH} {Q : mxRes → mxH → Prop} (x0 : Nat) (x1 : Nat) (x2 : Int32) (x3 : Int32)
    (P : (((8 : Int32) ≤ x3 → mx_SX mY_X12_marksWorld d 59 [(0, .ref x0), (1, .ref x1), (2, .int x2), (3, .int (0 : Int32))] [] h Q) ∧ (¬ (8 : Int32) ≤ x3 → mx_SX mY_X12_marksWorld d 11 [(0, .ref x0), (1, .ref x1), (2, .int x2), (3, .int x3), (4, .int (0 : Int32))] [] h Q))) : mx_SX mY_X12_marksWorld d 2 [(0, .ref x0), (1, .ref x1), (2, .int x2), (3, .int x3)] [] h Q := by
  refine mx_iload_n (pc := 2) 3 (mx_dd dd_X12_marksWorld_0 2 (2, .iload_n 3, 1) rfl) rfl rfl ?_
  refine mx_bipush (pc := 3) (v := (8 : Int32)) (mx_dd dd_X12_marksWorld_0 3 (3, .bipush 8, 2) rfl) (by decide) ?_
  refine mx_icmp_ge (pc := 5) 57 (mx_dd dd_X12_marksWorld_0 4 (5, .if_icmp .ge 52, 3) rfl) rfl (fun c5 => ?_) (fun c5 => ?_)
  · have P := P.1 c5
    refine mx_iconst (pc := 57) (v := (0 : Int32)) (mx_dd dd_X12_marksWorld_0 37 (57, .iconst 0, 1) rfl) (by decide) ?_
    refine mx_istore_n (pc := 58) (mx_dd dd_X12_marksWorld_0 38 (58, .istore_n 3, 1) rfl) rfl (by decide) (lv' := [(3, _), (0, _), (1, _), (2, _)]) rfl ?_
    refine mx_sel [1, 2, 3, 0] rfl ?_
    exact P
  · have P := P.2 c5
    refine mx_iconst (pc := 8) (v := (0 : Int32)) (mx_dd dd_X12_marksWorld_0 5 (8, .iconst 0, 1) rfl) (by decide) ?_
    refine mx_istore (pc := 9) (mx_dd dd_X12_marksWorld_0 6 (9, .istore 4, 2) rfl) (by decide) (lv' := [(4, _), (0, _), (1, _), (2, _), (3, _)]) rfl ?_
    refine mx_sel [1, 2, 3, 4, 0] rfl ?_
    exact P
theorem b_X12_marksWorld_11 {d : Nat} {h : mxH} {Q : mxRes → mxH → Prop} (x0 : Nat) (x1 : Nat) (x2 : Int32) (x3 : Int32) (x4 : Int32)
    (P : hpK h x1 = 14 ∧ vp_in ((x2 + (1 : Int32)) + ((41 : Int32) * x3)) (hpZ h x1) ∧ (((hpI h x1 ((x2 + (1 : Int32)) + ((41 : Int32) * x3)).toNatClampNeg) ≤ x4 → mx_SX mY_X12_marksWorld d 2 [(0, .ref x0), (1, .ref x1), (2, .int x2), (3, .int (x3 + (1 : Int32)))] [] h Q) ∧ (¬ (hpI h x1 ((x2 + (1 : Int32)) + ((41 : Int32) * x3)).toNatClampNeg) ≤ x4 → vp_in ((((x2 + (1 : Int32)) + ((41 : Int32) * x3)) + (1 : Int32)) + x4) (hpZ h x1) ∧ 1 ≤ d ∧ hpK h x0 = 12 ∧ mx_SM mY_X12_marks (d - 1) [.ref x0, .int (hpI h x1 ((((x2 + (1 : Int32)) + ((41 : Int32) * x3)) + (1 : Int32)) + x4).toNatClampNeg)] h (mx_KV (fun h1 => mx_SX mY_X12_marksWorld d 11 [(0, .ref x0), (1, .ref x1), (2, .int x2), (3, .int x3), (4, .int (x4 + (1 : Int32)))] [] h1 Q) (mx_XX mY_X12_marksWorld Q))))) : mx_SX mY_X12_marksWorld d 11 [(0, .ref x0), (1, .ref x1), (2, .int x2), (3, .int x3), (4, .int x4)] [] h Q := by
  refine mx_iload (pc := 11) 4 (mx_dd dd_X12_marksWorld_0 7 (11, .iload 4, 2) rfl) rfl ?_
  refine mx_aload_n (pc := 13) 1 (mx_dd dd_X12_marksWorld_0 8 (13, .aload_n 1, 1) rfl) rfl rfl ?_
  refine mx_iload_n (pc := 14) 2 (mx_dd dd_X12_marksWorld_0 9 (14, .iload_n 2, 1) rfl) rfl rfl ?_
  refine mx_iconst (pc := 15) (v := (1 : Int32)) (mx_dd dd_X12_marksWorld_0 10 (15, .iconst 1, 1) rfl) (by decide) ?_
  refine mx_iadd (pc := 16) (mx_dd dd_X12_marksWorld_0 11 (16, .iadd, 1) rfl) ?_
  refine mx_bipush (pc := 17) (v := (41 : Int32)) (mx_dd dd_X12_marksWorld_0 12 (17, .bipush 41, 2) rfl) (by decide) ?_
  refine mx_iload_n (pc := 19) 3 (mx_dd dd_X12_marksWorld_0 13 (19, .iload_n 3, 1) rfl) rfl rfl ?_
  refine mx_imul (pc := 20) (mx_dd dd_X12_marksWorld_0 14 (20, .imul, 1) rfl) ?_
  refine mx_iadd (pc := 21) (mx_dd dd_X12_marksWorld_0 15 (21, .iadd, 1) rfl) ?_
  obtain ⟨g1, P⟩ := P
  obtain ⟨g2, P⟩ := P
  refine mx_iald (pc := 22) g1 g2 (mx_dd dd_X12_marksWorld_0 16 (22, .iaload, 1) rfl) ?_
  refine mx_icmp_ge (pc := 23) 51 (mx_dd dd_X12_marksWorld_0 17 (23, .if_icmp .ge 28, 3) rfl) rfl (fun c23 => ?_) (fun c23 => ?_)
  · have P := P.1 c23
    refine mx_iinc (pc := 51) 3 (mx_dd dd_X12_marksWorld_0 35 (51, .iinc 3 1, 3) rfl) rfl (mx_kadd (by decide : Int32.ofInt 1 = (1 : Int32))) (by decide) (lv' := [(3, _), (0, _), (1, _), (2, _), (4, _)]) rfl ?_
    refine mx_goto (pc := 54) 2 (mx_dd dd_X12_marksWorld_0 36 (54, .goto (-52), 3) rfl) rfl ?_
    refine mx_sel [1, 2, 3, 0] rfl ?_
    exact P
  · have P := P.2 c23
    refine mx_aload_n (pc := 26) 0 (mx_dd dd_X12_marksWorld_0 18 (26, .aload_n 0, 1) rfl) rfl rfl ?_
    refine mx_aload_n (pc := 27) 1 (mx_dd dd_X12_marksWorld_0 19 (27, .aload_n 1, 1) rfl) rfl rfl ?_
    refine mx_iload_n (pc := 28) 2 (mx_dd dd_X12_marksWorld_0 20 (28, .iload_n 2, 1) rfl) rfl rfl ?_
    refine mx_iconst (pc := 29) (v := (1 : Int32)) (mx_dd dd_X12_marksWorld_0 21 (29, .iconst 1, 1) rfl) (by decide) ?_
    refine mx_iadd (pc := 30) (mx_dd dd_X12_marksWorld_0 22 (30, .iadd, 1) rfl) ?_
    refine mx_bipush (pc := 31) (v := (41 : Int32)) (mx_dd dd_X12_marksWorld_0 23 (31, .bipush 41, 2) rfl) (by decide) ?_
    refine mx_iload_n (pc := 33) 3 (mx_dd dd_X12_marksWorld_0 24 (33, .iload_n 3, 1) rfl) rfl rfl ?_
    refine mx_imul (pc := 34) (mx_dd dd_X12_marksWorld_0 25 (34, .imul, 1) rfl) ?_
    refine mx_iadd (pc := 35) (mx_dd dd_X12_marksWorld_0 26 (35, .iadd, 1) rfl) ?_
    refine mx_iconst (pc := 36) (v := (1 : Int32)) (mx_dd dd_X12_marksWorld_0 27 (36, .iconst 1, 1) rfl) (by decide) ?_
    refine mx_iadd (pc := 37) (mx_dd dd_X12_marksWorld_0 28 (37, .iadd, 1) rfl) ?_
    refine mx_iload (pc := 38) 4 (mx_dd dd_X12_marksWorld_0 29 (38, .iload 4, 2) rfl) rfl ?_
    refine mx_iadd (pc := 40) (mx_dd dd_X12_marksWorld_0 30 (40, .iadd, 1) rfl) ?_
    obtain ⟨g3, P⟩ := P
    refine mx_iald (pc := 41) g1 g3 (mx_dd dd_X12_marksWorld_0 31 (41, .iaload, 1) rfl) ?_
    obtain ⟨g4, P⟩ := P
    obtain ⟨g5, P⟩ := P
    refine mx_cVV (pc := 42) (Y := mY_X12_marks) (As := [.int _]) mx_ml_X12_331 mx_y_X12_marks rfl g5 (by decide) rfl (by decide) rfl (mx_dd dd_X12_marksWorld_0 32 (42, .invokevirtual 331, 3) rfl) g4 (by decide) P (fun h1 P => ?_)
    refine mx_iinc (pc := 45) 4 (mx_dd dd_X12_marksWorld_0 33 (45, .iinc 4 1, 3) rfl) rfl (mx_kadd (by decide : Int32.ofInt 1 = (1 : Int32))) (by decide) (lv' := [(4, _), (0, _), (1, _), (2, _), (3, _)]) rfl ?_
    refine mx_goto (pc := 48) 11 (mx_dd dd_X12_marksWorld_0 34 (48, .goto (-37), 3) rfl) rfl ?_
    refine mx_sel [1, 2, 3, 4, 0] rfl ?_
    exact P
theorem b_X12_marksWorld_59 {d : Nat} {h : mxH} {Q : mxRes → mxH → Prop} (x0 : Nat) (x1 : Nat) (x2 : Int32) (x3 : Int32)
    (P : hpK h x1 = 14 ∧ vp_in (x2 + (329 : Int32)) (hpZ h x1) ∧ (((hpI h x1 (x2 + (329 : Int32)).toNatClampNeg) ≤ x3 → mx_SX mY_X12_marksWorld d 93 [(0, .ref x0), (1, .ref x1), (2, .int x2), (3, .int (0 : Int32))] [] h Q) ∧ (¬ (hpI h x1 (x2 + (329 : Int32)).toNatClampNeg) ≤ x3 → vp_in (((x2 + (329 : Int32)) + (1 : Int32)) + x3) (hpZ h x1) ∧ 1 ≤ d ∧ hpK h x0 = 12 ∧ mx_SM mY_X12_marks (d - 1) [.ref x0, .int (hpI h x1 (((x2 + (329 : Int32)) + (1 : Int32)) + x3).toNatClampNeg)] h (mx_KV (fun h1 => mx_SX mY_X12_marksWorld d 59 [(0, .ref x0), (1, .ref x1), (2, .int x2), (3, .int (x3 + (1 : Int32)))] [] h1 Q) (mx_XX mY_X12_marksWorld Q))))) : mx_SX mY_X12_marksWorld d 59 [(0, .ref x0), (1, .ref x1), (2, .int x2), (3, .int x3)] [] h Q := by
  refine mx_iload_n (pc := 59) 3 (mx_dd dd_X12_marksWorld_0 39 (59, .iload_n 3, 1) rfl) rfl rfl ?_
  refine mx_aload_n (pc := 60) 1 (mx_dd dd_X12_marksWorld_1 0 (60, .aload_n 1, 1) rfl) rfl rfl ?_
  refine mx_iload_n (pc := 61) 2 (mx_dd dd_X12_marksWorld_1 1 (61, .iload_n 2, 1) rfl) rfl rfl ?_
  refine mx_sipush (pc := 62) (v := (329 : Int32)) (mx_dd dd_X12_marksWorld_1 2 (62, .sipush 329, 3) rfl) (by decide) ?_
  refine mx_iadd (pc := 65) (mx_dd dd_X12_marksWorld_1 3 (65, .iadd, 1) rfl) ?_
  obtain ⟨g1, P⟩ := P
  obtain ⟨g2, P⟩ := P
  refine mx_iald (pc := 66) g1 g2 (mx_dd dd_X12_marksWorld_1 4 (66, .iaload, 1) rfl) ?_
  refine mx_icmp_ge (pc := 67) 91 (mx_dd dd_X12_marksWorld_1 5 (67, .if_icmp .ge 24, 3) rfl) rfl (fun c67 => ?_) (fun c67 => ?_)
  · have P := P.1 c67
    refine mx_iconst (pc := 91) (v := (0 : Int32)) (mx_dd dd_X12_marksWorld_1 19 (91, .iconst 0, 1) rfl) (by decide) ?_
    refine mx_istore_n (pc := 92) (mx_dd dd_X12_marksWorld_1 20 (92, .istore_n 3, 1) rfl) rfl (by decide) (lv' := [(3, _), (0, _), (1, _), (2, _)]) rfl ?_
    refine mx_sel [1, 2, 3, 0] rfl ?_
    exact P
  · have P := P.2 c67
    refine mx_aload_n (pc := 70) 0 (mx_dd dd_X12_marksWorld_1 6 (70, .aload_n 0, 1) rfl) rfl rfl ?_
    refine mx_aload_n (pc := 71) 1 (mx_dd dd_X12_marksWorld_1 7 (71, .aload_n 1, 1) rfl) rfl rfl ?_
    refine mx_iload_n (pc := 72) 2 (mx_dd dd_X12_marksWorld_1 8 (72, .iload_n 2, 1) rfl) rfl rfl ?_
    refine mx_sipush (pc := 73) (v := (329 : Int32)) (mx_dd dd_X12_marksWorld_1 9 (73, .sipush 329, 3) rfl) (by decide) ?_
    refine mx_iadd (pc := 76) (mx_dd dd_X12_marksWorld_1 10 (76, .iadd, 1) rfl) ?_
    refine mx_iconst (pc := 77) (v := (1 : Int32)) (mx_dd dd_X12_marksWorld_1 11 (77, .iconst 1, 1) rfl) (by decide) ?_
    refine mx_iadd (pc := 78) (mx_dd dd_X12_marksWorld_1 12 (78, .iadd, 1) rfl) ?_
    refine mx_iload_n (pc := 79) 3 (mx_dd dd_X12_marksWorld_1 13 (79, .iload_n 3, 1) rfl) rfl rfl ?_
    refine mx_iadd (pc := 80) (mx_dd dd_X12_marksWorld_1 14 (80, .iadd, 1) rfl) ?_
    obtain ⟨g3, P⟩ := P
    refine mx_iald (pc := 81) g1 g3 (mx_dd dd_X12_marksWorld_1 15 (81, .iaload, 1) rfl) ?_
    obtain ⟨g4, P⟩ := P
    obtain ⟨g5, P⟩ := P
    refine mx_cVV (pc := 82) (Y := mY_X12_marks) (As := [.int _]) mx_ml_X12_331 mx_y_X12_marks rfl g5 (by decide) rfl (by decide) rfl (mx_dd dd_X12_marksWorld_1 16 (82, .invokevirtual 331, 3) rfl) g4 (by decide) P (fun h1 P => ?_)
    refine mx_iinc (pc := 85) 3 (mx_dd dd_X12_marksWorld_1 17 (85, .iinc 3 1, 3) rfl) rfl (mx_kadd (by decide : Int32.ofInt 1 = (1 : Int32))) (by decide) (lv' := [(3, _), (0, _), (1, _), (2, _)]) rfl ?_
    refine mx_goto (pc := 88) 59 (mx_dd dd_X12_marksWorld_1 18 (88, .goto (-29), 3) rfl) rfl ?_
    refine mx_sel [1, 2, 3, 0] rfl ?_
    exact P
theorem b_X12_marksWorld_93 {d : Nat} {h : mxH} {Q : mxRes → mxH → Prop} (x0 : Nat) (x1 : Nat) (x2 : Int32) (x3 : Int32)
    (P : hpK h x1 = 14 ∧ vp_in (x2 + (370 : Int32)) (hpZ h x1) ∧ (((hpI h x1 (x2 + (370 : Int32)).toNatClampNeg) ≤ x3 → Q (.inl none) h) ∧ (¬ (hpI h x1 (x2 + (370 : Int32)).toNatClampNeg) ≤ x3 → vp_in (((x2 + (370 : Int32)) + (1 : Int32)) + x3) (hpZ h x1) ∧ 1 ≤ d ∧ hpK h x0 = 12 ∧ mx_SM mY_X12_marks (d - 1) [.ref x0, .int (hpI h x1 (((x2 + (370 : Int32)) + (1 : Int32)) + x3).toNatClampNeg)] h (mx_KV (fun h1 => mx_SX mY_X12_marksWorld d 93 [(0, .ref x0), (1, .ref x1), (2, .int x2), (3, .int (x3 + (1 : Int32)))] [] h1 Q) (mx_XX mY_X12_marksWorld Q))))) : mx_SX mY_X12_marksWorld d 93 [(0, .ref x0), (1, .ref x1), (2, .int x2), (3, .int x3)] [] h Q := by
  refine mx_iload_n (pc := 93) 3 (mx_dd dd_X12_marksWorld_1 21 (93, .iload_n 3, 1) rfl) rfl rfl ?_
  refine mx_aload_n (pc := 94) 1 (mx_dd dd_X12_marksWorld_1 22 (94, .aload_n 1, 1) rfl) rfl rfl ?_
  refine mx_iload_n (pc := 95) 2 (mx_dd dd_X12_marksWorld_1 23 (95, .iload_n 2, 1) rfl) rfl rfl ?_
  refine mx_sipush (pc := 96) (v := (370 : Int32)) (mx_dd dd_X12_marksWorld_1 24 (96, .sipush 370, 3) rfl) (by decide) ?_
  refine mx_iadd (pc := 99) (mx_dd dd_X12_marksWorld_1 25 (99, .iadd, 1) rfl) ?_
  obtain ⟨g1, P⟩ := P
  obtain ⟨g2, P⟩ := P
  refine mx_iald (pc := 100) g1 g2 (mx_dd dd_X12_marksWorld_1 26 (100, .iaload, 1) rfl) ?_
  refine mx_icmp_ge (pc := 101) 125 (mx_dd dd_X12_marksWorld_1 27 (101, .if_icmp .ge 24, 3) rfl) rfl (fun c101 => ?_) (fun c101 => ?_)
  · have P := P.1 c101
    exact mx_return (pc := 125) (mx_dd dd_X12_marksWorld_2 1 (125, .return_, 1) rfl) rfl P
  · have P := P.2 c101
    refine mx_aload_n (pc := 104) 0 (mx_dd dd_X12_marksWorld_1 28 (104, .aload_n 0, 1) rfl) rfl rfl ?_
    refine mx_aload_n (pc := 105) 1 (mx_dd dd_X12_marksWorld_1 29 (105, .aload_n 1, 1) rfl) rfl rfl ?_
    refine mx_iload_n (pc := 106) 2 (mx_dd dd_X12_marksWorld_1 30 (106, .iload_n 2, 1) rfl) rfl rfl ?_
    refine mx_sipush (pc := 107) (v := (370 : Int32)) (mx_dd dd_X12_marksWorld_1 31 (107, .sipush 370, 3) rfl) (by decide) ?_
    refine mx_iadd (pc := 110) (mx_dd dd_X12_marksWorld_1 32 (110, .iadd, 1) rfl) ?_
    refine mx_iconst (pc := 111) (v := (1 : Int32)) (mx_dd dd_X12_marksWorld_1 33 (111, .iconst 1, 1) rfl) (by decide) ?_
    refine mx_iadd (pc := 112) (mx_dd dd_X12_marksWorld_1 34 (112, .iadd, 1) rfl) ?_
    refine mx_iload_n (pc := 113) 3 (mx_dd dd_X12_marksWorld_1 35 (113, .iload_n 3, 1) rfl) rfl rfl ?_
    refine mx_iadd (pc := 114) (mx_dd dd_X12_marksWorld_1 36 (114, .iadd, 1) rfl) ?_
    obtain ⟨g3, P⟩ := P
    refine mx_iald (pc := 115) g1 g3 (mx_dd dd_X12_marksWorld_1 37 (115, .iaload, 1) rfl) ?_
    obtain ⟨g4, P⟩ := P
    obtain ⟨g5, P⟩ := P
    refine mx_cVV (pc := 116) (Y := mY_X12_marks) (As := [.int _]) mx_ml_X12_331 mx_y_X12_marks rfl g5 (by decide) rfl (by decide) rfl (mx_dd dd_X12_marksWorld_1 38 (116, .invokevirtual 331, 3) rfl) g4 (by decide) P (fun h1 P => ?_)
    refine mx_iinc (pc := 119) 3 (mx_dd dd_X12_marksWorld_1 39 (119, .iinc 3 1, 3) rfl) rfl (mx_kadd (by decide : Int32.ofInt 1 = (1 : Int32))) (by decide) (lv' := [(3, _), (0, _), (1, _), (2, _)]) rfl ?_
    refine mx_goto (pc := 122) 93 (mx_dd dd_X12_marksWorld_2 0 (122, .goto (-29), 3) rfl) rfl ?_
    refine mx_sel [1, 2, 3, 0] rfl ?_
    exact P
theorem b_X12_marksShell {d : Nat} {h : mxH} {Q : mxRes → mxH → Prop} (x0 : Nat) (x1 : Nat) (x2 : Int32)
    (P : mx_SX mY_X12_marksShell d 2 [(0, .ref x0), (1, .ref x1), (2, .int x2), (3, .int (0 : Int32))] [] h Q) : mx_SM mY_X12_marksShell d [.ref x0, .ref x1, .int x2] h Q := by
  refine mx_SM_of (by decide) (Nat.le_of_ble_eq_true rfl) ?_
  show mx_SX mY_X12_marksShell d 0 [(0, .ref x0), (1, .ref x1), (2, .int x2)] [] h Q
  refine mx_iconst (pc := 0) (v := (0 : Int32)) (mx_dd dd_X12_marksShell 0 (0, .iconst 0, 1) rfl) (by decide) ?_
  refine mx_istore_n (pc := 1) (mx_dd dd_X12_marksShell 1 (1, .istore_n 3, 1) rfl) rfl (by decide) (lv' := [(3, _), (0, _), (1, _), (2, _)]) rfl ?_
  refine mx_sel [1, 2, 3, 0] rfl ?_
  exact P
theorem b_X12_marksShell_2 {d : Nat} {h : mxH} {Q : mxRes → mxH → Prop} (x0 : Nat) (x1 : Nat) (x2 : Int32) (x3 : Int32)
    (P : hpK h x1 = 14 ∧ vp_in (x2 + (0 : Int32)) (hpZ h x1) ∧ (((hpI h x1 (x2 + (0 : Int32)).toNatClampNeg) ≤ x3 → Q (.inl none) h) ∧ (¬ (hpI h x1 (x2 + (0 : Int32)).toNatClampNeg) ≤ x3 → vp_in (((x2 + (0 : Int32)) + (1 : Int32)) + x3) (hpZ h x1) ∧ 1 ≤ d ∧ hpK h x0 = 12 ∧ mx_SM mY_X12_marks (d - 1) [.ref x0, .int (hpI h x1 (((x2 + (0 : Int32)) + (1 : Int32)) + x3).toNatClampNeg)] h (mx_KV (fun h1 => mx_SX mY_X12_marksShell d 2 [(0, .ref x0), (1, .ref x1), (2, .int x2), (3, .int (x3 + (1 : Int32)))] [] h1 Q) (mx_XX mY_X12_marksShell Q))))) : mx_SX mY_X12_marksShell d 2 [(0, .ref x0), (1, .ref x1), (2, .int x2), (3, .int x3)] [] h Q := by
  refine mx_iload_n (pc := 2) 3 (mx_dd dd_X12_marksShell 2 (2, .iload_n 3, 1) rfl) rfl rfl ?_
  refine mx_aload_n (pc := 3) 1 (mx_dd dd_X12_marksShell 3 (3, .aload_n 1, 1) rfl) rfl rfl ?_
  refine mx_iload_n (pc := 4) 2 (mx_dd dd_X12_marksShell 4 (4, .iload_n 2, 1) rfl) rfl rfl ?_
  refine mx_iconst (pc := 5) (v := (0 : Int32)) (mx_dd dd_X12_marksShell 5 (5, .iconst 0, 1) rfl) (by decide) ?_
  refine mx_iadd (pc := 6) (mx_dd dd_X12_marksShell 6 (6, .iadd, 1) rfl) ?_
  obtain ⟨g1, P⟩ := P
  obtain ⟨g2, P⟩ := P
  refine mx_iald (pc := 7) g1 g2 (mx_dd dd_X12_marksShell 7 (7, .iaload, 1) rfl) ?_
  refine mx_icmp_ge (pc := 8) 30 (mx_dd dd_X12_marksShell 8 (8, .if_icmp .ge 22, 3) rfl) rfl (fun c8 => ?_) (fun c8 => ?_)
  · have P := P.1 c8
    exact mx_return (pc := 30) (mx_dd dd_X12_marksShell 22 (30, .return_, 1) rfl) rfl P
  · have P := P.2 c8
    refine mx_aload_n (pc := 11) 0 (mx_dd dd_X12_marksShell 9 (11, .aload_n 0, 1) rfl) rfl rfl ?_
    refine mx_aload_n (pc := 12) 1 (mx_dd dd_X12_marksShell 10 (12, .aload_n 1, 1) rfl) rfl rfl ?_
    refine mx_iload_n (pc := 13) 2 (mx_dd dd_X12_marksShell 11 (13, .iload_n 2, 1) rfl) rfl rfl ?_
    refine mx_iconst (pc := 14) (v := (0 : Int32)) (mx_dd dd_X12_marksShell 12 (14, .iconst 0, 1) rfl) (by decide) ?_
    refine mx_iadd (pc := 15) (mx_dd dd_X12_marksShell 13 (15, .iadd, 1) rfl) ?_
    refine mx_iconst (pc := 16) (v := (1 : Int32)) (mx_dd dd_X12_marksShell 14 (16, .iconst 1, 1) rfl) (by decide) ?_
    refine mx_iadd (pc := 17) (mx_dd dd_X12_marksShell 15 (17, .iadd, 1) rfl) ?_
    refine mx_iload_n (pc := 18) 3 (mx_dd dd_X12_marksShell 16 (18, .iload_n 3, 1) rfl) rfl rfl ?_
    refine mx_iadd (pc := 19) (mx_dd dd_X12_marksShell 17 (19, .iadd, 1) rfl) ?_
    obtain ⟨g3, P⟩ := P
    refine mx_iald (pc := 20) g1 g3 (mx_dd dd_X12_marksShell 18 (20, .iaload, 1) rfl) ?_
    obtain ⟨g4, P⟩ := P
    obtain ⟨g5, P⟩ := P
    refine mx_cVV (pc := 21) (Y := mY_X12_marks) (As := [.int _]) mx_ml_X12_331 mx_y_X12_marks rfl g5 (by decide) rfl (by decide) rfl (mx_dd dd_X12_marksShell 19 (21, .invokevirtual 331, 3) rfl) g4 (by decide) P (fun h1 P => ?_)
    refine mx_iinc (pc := 24) 3 (mx_dd dd_X12_marksShell 20 (24, .iinc 3 1, 3) rfl) rfl (mx_kadd (by decide : Int32.ofInt 1 = (1 : Int32))) (by decide) (lv' := [(3, _), (0, _), (1, _), (2, _)]) rfl ?_
    refine mx_goto (pc := 27) 2 (mx_dd dd_X12_marksShell 21 (27, .goto (-25), 3) rfl) rfl ?_
    refine mx_sel [1, 2, 3, 0] rfl ?_
    exact P
theorem b_X12_lineOf {d : Nat} {h : mxH} {Q : mxRes → mxH → Prop} (x0 : Nat) (x1 : Nat) (x2 : Int32) (x3 : Int32)
    (P : 1 ≤ d ∧ ((¬ (if x3 < (80 : Int32) then x3 else (80 : Int32)) = 0 → mx_SX mY_X12_lineOf d 18 [(0, .ref x0), (1, .ref x1), (2, .int x2), (4, .int (if x3 < (80 : Int32) then x3 else (80 : Int32))), (5, .int (0 : Int32))] [] h Q) ∧ ((if x3 < (80 : Int32) then x3 else (80 : Int32)) = 0 → Q (.inl (some (.int (0 : Int32)))) h))) : mx_SM mY_X12_lineOf d [.ref x0, .ref x1, .int x2, .int x3] h Q := by
  refine mx_SM_of (by decide) (Nat.le_of_ble_eq_true rfl) ?_
  show mx_SX mY_X12_lineOf d 0 [(0, .ref x0), (1, .ref x1), (2, .int x2), (3, .int x3)] [] h Q
  refine mx_bipush (pc := 0) (v := (80 : Int32)) (mx_dd dd_X12_lineOf_0 0 (0, .bipush 80, 2) rfl) (by decide) ?_
  refine mx_iload_n (pc := 2) 3 (mx_dd dd_X12_lineOf_0 1 (2, .iload_n 3, 1) rfl) rfl rfl ?_
  obtain ⟨g1, P⟩ := P
  refine mx_min (pc := 3) mx_mm_X12_343 mx_mmins mx_mini mx_mminc (by decide) (mx_dd dd_X12_lineOf_0 2 (3, .invokestatic 343, 3) rfl) g1 ?_
  refine mx_istore (pc := 6) (mx_dd dd_X12_lineOf_0 3 (6, .istore 4, 2) rfl) (by decide) (lv' := [(4, _), (0, _), (1, _), (2, _), (3, _)]) rfl ?_
  refine mx_iload (pc := 8) 0 (mx_dd dd_X12_lineOf_0 4 (8, .iload 4, 2) rfl) rfl ?_
  refine mx_if_ne (pc := 10) 15 (mx_dd dd_X12_lineOf_0 5 (10, .ifCond .ne 5, 3) rfl) rfl (fun c10 => ?_) (fun c10 => ?_)
  · have P := P.1 c10
    refine mx_iconst (pc := 15) (v := (0 : Int32)) (mx_dd dd_X12_lineOf_0 8 (15, .iconst 0, 1) rfl) (by decide) ?_
    refine mx_istore (pc := 16) (mx_dd dd_X12_lineOf_0 9 (16, .istore 5, 2) rfl) (by decide) (lv' := [(5, _), (4, _), (0, _), (1, _), (2, _), (3, _)]) rfl ?_
    refine mx_sel [2, 3, 4, 1, 0] rfl ?_
    exact P
  · have P := P.2 c10
    refine mx_iconst (pc := 13) (v := (0 : Int32)) (mx_dd dd_X12_lineOf_0 6 (13, .iconst 0, 1) rfl) (by decide) ?_
    exact mx_ireturn (pc := 14) (mx_dd dd_X12_lineOf_0 7 (14, .ireturn, 1) rfl) rfl rfl P
theorem b_X12_lineOf_18 {d : Nat} {h : mxH} {Q : mxRes → mxH → Prop} (x0 : Nat) (x1 : Nat) (x2 : Int32) (x4 : Int32) (x5 : Int32)
    (P : hpK h x0 = 12 ∧ ∃ b1 : Nat, hpR h x0 54 = some b1 ∧ hpK h b1 = 16 ∧ vp_in (hpI h x0 55) (hpZ h b1) ∧ ((¬ (hpI h b1 (hpI h x0 55).toNatClampNeg) = 0 → mx_SX mY_X12_lineOf d 37 [(0, .ref x0), (1, .ref x1), (2, .int x2), (4, .int x4), (5, .int x5)] [] h Q) ∧ ((hpI h b1 (hpI h x0 55).toNatClampNeg) = 0 → ((¬ (hpI h x0 55) = 0 → ∀ h1 : mxH, h1 = hsI h b1 (hpI h x0 55).toNatClampNeg ((1 : Int32) &&& 1) → ∃ b2 : Nat, hpR h1 x0 53 = some b2 ∧ hpK h1 b2 = 14 ∧ vp_in (hpI h1 x0 55) (hpZ h1 b2) ∧ ∀ h2 : mxH, h2 = hsI h1 b2 (hpI h1 x0 55).toNatClampNeg x4 → mx_SX mY_X12_lineOf d 93 [(0, .ref x0), (1, .ref x1), (2, .int x2), (4, .int x4), (6, .int (0 : Int32))] [] h2 Q) ∧ ((hpI h x0 55) = 0 → mx_SX mY_X12_lineOf d 37 [(0, .ref x0), (1, .ref x1), (2, .int x2), (4, .int x4), (5, .int x5)] [] h Q))))) : mx_SX mY_X12_lineOf d 18 [(0, .ref x0), (1, .ref x1), (2, .int x2), (4, .int x4), (5, .int x5)] [] h Q := by
  refine mx_aload_n (pc := 18) 0 (mx_dd dd_X12_lineOf_0 10 (18, .aload_n 0, 1) rfl) rfl rfl ?_
  obtain ⟨g1, P⟩ := P
  obtain ⟨b1, g2, P⟩ := P
  refine mx_getR (pc := 19) mx_fl_X12_308 g1 rfl g2 (mx_dd dd_X12_lineOf_0 11 (19, .getfield 308, 3) rfl) ?_
  refine mx_aload_n (pc := 22) 0 (mx_dd dd_X12_lineOf_0 12 (22, .aload_n 0, 1) rfl) rfl rfl ?_
  refine mx_getI (pc := 23) mx_fl_X12_349 g1 rfl (mx_dd dd_X12_lineOf_0 13 (23, .getfield 349, 3) rfl) ?_
  obtain ⟨g3, P⟩ := P
  obtain ⟨g4, P⟩ := P
  refine mx_zald (pc := 26) g3 g4 (mx_dd dd_X12_lineOf_0 14 (26, .baload, 1) rfl) ?_
  refine mx_if_ne (pc := 27) 37 (mx_dd dd_X12_lineOf_0 15 (27, .ifCond .ne 10, 3) rfl) rfl (fun c27 => ?_) (fun c27 => ?_)
  · have P := P.1 c27
    exact P
  · have P := P.2 c27
    refine mx_aload_n (pc := 30) 0 (mx_dd dd_X12_lineOf_0 16 (30, .aload_n 0, 1) rfl) rfl rfl ?_
    refine mx_getI (pc := 31) mx_fl_X12_349 g1 rfl (mx_dd dd_X12_lineOf_0 17 (31, .getfield 349, 3) rfl) ?_
    refine mx_if_ne (pc := 34) 69 (mx_dd dd_X12_lineOf_0 18 (34, .ifCond .ne 35, 3) rfl) rfl (fun c34 => ?_) (fun c34 => ?_)
    · have P := P.1 c34
      refine mx_aload_n (pc := 69) 0 (mx_dd dd_X12_lineOf_0 34 (69, .aload_n 0, 1) rfl) rfl rfl ?_
      refine mx_getR (pc := 70) mx_fl_X12_308 g1 rfl g2 (mx_dd dd_X12_lineOf_0 35 (70, .getfield 308, 3) rfl) ?_
      refine mx_aload_n (pc := 73) 0 (mx_dd dd_X12_lineOf_0 36 (73, .aload_n 0, 1) rfl) rfl rfl ?_
      refine mx_getI (pc := 74) mx_fl_X12_349 g1 rfl (mx_dd dd_X12_lineOf_0 37 (74, .getfield 349, 3) rfl) ?_
      refine mx_iconst (pc := 77) (v := (1 : Int32)) (mx_dd dd_X12_lineOf_0 38 (77, .iconst 1, 1) rfl) (by decide) ?_
      refine mx_zast (pc := 78) g3 g4 (mx_dd dd_X12_lineOf_0 39 (78, .bastore, 1) rfl) ?_
      have P := P _ rfl
      refine mx_aload_n (pc := 79) 0 (mx_dd dd_X12_lineOf_1 0 (79, .aload_n 0, 1) rfl) rfl rfl ?_
      obtain ⟨b2, g5, P⟩ := P
      refine mx_getR (pc := 80) mx_fl_X12_355 g1 rfl g5 (mx_dd dd_X12_lineOf_1 1 (80, .getfield 355, 3) rfl) ?_
      refine mx_aload_n (pc := 83) 0 (mx_dd dd_X12_lineOf_1 2 (83, .aload_n 0, 1) rfl) rfl rfl ?_
      refine mx_getI (pc := 84) mx_fl_X12_349 g1 rfl (mx_dd dd_X12_lineOf_1 3 (84, .getfield 349, 3) rfl) ?_
      refine mx_iload (pc := 87) 3 (mx_dd dd_X12_lineOf_1 4 (87, .iload 4, 2) rfl) rfl ?_
      obtain ⟨g6, P⟩ := P
      obtain ⟨g7, P⟩ := P
      refine mx_iast (pc := 89) g6 g7 (mx_dd dd_X12_lineOf_1 5 (89, .iastore, 1) rfl) ?_
      have P := P _ rfl
      refine mx_iconst (pc := 90) (v := (0 : Int32)) (mx_dd dd_X12_lineOf_1 6 (90, .iconst 0, 1) rfl) (by decide) ?_
      refine mx_istore (pc := 91) (mx_dd dd_X12_lineOf_1 7 (91, .istore 6, 2) rfl) (by decide) (lv' := [(6, _), (0, _), (1, _), (2, _), (4, _), (5, _)]) rfl ?_
      refine mx_sel [1, 2, 3, 4, 0] rfl ?_
      exact P
    · have P := P.2 c34
      exact P
theorem b_X12_lineOf_37 {d : Nat} {h : mxH} {Q : mxRes → mxH → Prop} (x0 : Nat) (x1 : Nat) (x2 : Int32) (x4 : Int32) (x5 : Int32)
    (P : hpK h x0 = 12 ∧ ∀ h1 : mxH, h1 = hsI h x0 55 (((hpI h x0 55) + (1 : Int32)) - ((hpI h x0 55) + (1 : Int32)) / (4400 : Int32) * (4400 : Int32)) → ((¬ (x5 + (1 : Int32)) = (4400 : Int32) → mx_SX mY_X12_lineOf d 18 [(0, .ref x0), (1, .ref x1), (2, .int x2), (4, .int x4), (5, .int (x5 + (1 : Int32)))] [] h1 Q) ∧ ((x5 + (1 : Int32)) = (4400 : Int32) → 1 ≤ d ∧ mx_SM mY_X12_sweepsLines (d - 1) [.ref x0] h1 (mx_KV (fun h2 => mx_SX mY_X12_lineOf d 18 [(0, .ref x0), (1, .ref x1), (2, .int x2), (4, .int x4), (5, .int (x5 + (1 : Int32)))] [] h2 Q) (mx_XX mY_X12_lineOf Q))))) : mx_SX mY_X12_lineOf d 37 [(0, .ref x0), (1, .ref x1), (2, .int x2), (4, .int x4), (5, .int x5)] [] h Q := by
  refine mx_aload_n (pc := 37) 0 (mx_dd dd_X12_lineOf_0 19 (37, .aload_n 0, 1) rfl) rfl rfl ?_
  refine mx_aload_n (pc := 38) 0 (mx_dd dd_X12_lineOf_0 20 (38, .aload_n 0, 1) rfl) rfl rfl ?_
  obtain ⟨g1, P⟩ := P
  refine mx_getI (pc := 39) mx_fl_X12_349 g1 rfl (mx_dd dd_X12_lineOf_0 21 (39, .getfield 349, 3) rfl) ?_
  refine mx_iconst (pc := 42) (v := (1 : Int32)) (mx_dd dd_X12_lineOf_0 22 (42, .iconst 1, 1) rfl) (by decide) ?_
  refine mx_iadd (pc := 43) (mx_dd dd_X12_lineOf_0 23 (43, .iadd, 1) rfl) ?_
  refine mx_sipush (pc := 44) (v := (4400 : Int32)) (mx_dd dd_X12_lineOf_0 24 (44, .sipush 4400, 3) rfl) (by decide) ?_
  refine mx_irem (pc := 47) (mx_dd dd_X12_lineOf_0 25 (47, .irem, 1) rfl) (by decide) ?_
  refine mx_putI (pc := 48) mx_fl_X12_349 g1 rfl (.inl rfl) rfl rfl (mx_dd dd_X12_lineOf_0 26 (48, .putfield 349, 3) rfl) ?_
  have P := P _ rfl
  refine mx_iinc (pc := 51) 4 (mx_dd dd_X12_lineOf_0 27 (51, .iinc 5 1, 3) rfl) rfl (mx_kadd (by decide : Int32.ofInt 1 = (1 : Int32))) (by decide) (lv' := [(5, _), (0, _), (1, _), (2, _), (4, _)]) rfl ?_
  refine mx_iload (pc := 54) 0 (mx_dd dd_X12_lineOf_0 28 (54, .iload 5, 2) rfl) rfl ?_
  refine mx_sipush (pc := 56) (v := (4400 : Int32)) (mx_dd dd_X12_lineOf_0 29 (56, .sipush 4400, 3) rfl) (by decide) ?_
  refine mx_icmp_ne (pc := 59) 18 (mx_dd dd_X12_lineOf_0 30 (59, .if_icmp .ne (-41), 3) rfl) rfl (fun c59 => ?_) (fun c59 => ?_)
  · have P := P.1 c59
    refine mx_sel [1, 2, 3, 4, 0] rfl ?_
    exact P
  · have P := P.2 c59
    refine mx_aload_n (pc := 62) 1 (mx_dd dd_X12_lineOf_0 31 (62, .aload_n 0, 1) rfl) rfl rfl ?_
    obtain ⟨g2, P⟩ := P
    refine mx_cVV (pc := 63) (Y := mY_X12_sweepsLines) (As := []) mx_ml_X12_352 mx_y_X12_sweepsLines rfl g1 (by decide) rfl (by decide) rfl (mx_dd dd_X12_lineOf_0 32 (63, .invokevirtual 352, 3) rfl) g2 (by decide) P (fun h2 P => ?_)
    refine mx_goto (pc := 66) 18 (mx_dd dd_X12_lineOf_0 33 (66, .goto (-48), 3) rfl) rfl ?_
    refine mx_sel [1, 2, 3, 4, 0] rfl ?_
    exact P
theorem b_X12_lineOf_93 {d : Nat} {h : mxH} {Q : mxRes → mxH → Prop} (x0 : Nat) (x1 : Nat) (x2 : Int32) (x4 : Int32) (x6 : Int32)
    (P : ((x4 ≤ x6 → hpK h x0 = 12 ∧ Q (.inl (some (.int (hpI h x0 55)))) h) ∧ (¬ x4 ≤ x6 → hpK h x0 = 12 ∧ ∃ b1 : Nat, hpR h x0 52 = some b1 ∧ hpK h x1 = 13 ∧ vp_in (x2 + x6) (hpZ h x1) ∧ hpK h b1 = 13 ∧ vp_in (((80 : Int32) * (hpI h x0 55)) + x6) (hpZ h b1) ∧ ∀ h1 : mxH, h1 = hsI h b1 (((80 : Int32) * (hpI h x0 55)) + x6).toNatClampNeg (hpI h x1 (x2 + x6).toNatClampNeg).toInt8.toInt32 → mx_SX mY_X12_lineOf d 93 [(0, .ref x0), (1, .ref x1), (2, .int x2), (4, .int x4), (6, .int (x6 + (1 : Int32)))] [] h1 Q))) : mx_SX mY_X12_lineOf d 93 [(0, .ref x0), (1, .ref x1), (2, .int x2), (4, .int x4), (6, .int x6)] [] h Q := by
  refine mx_iload (pc := 93) 4 (mx_dd dd_X12_lineOf_1 8 (93, .iload 6, 2) rfl) rfl ?_
  refine mx_iload (pc := 95) 3 (mx_dd dd_X12_lineOf_1 9 (95, .iload 4, 2) rfl) rfl ?_
  refine mx_icmp_ge (pc := 97) 127 (mx_dd dd_X12_lineOf_1 10 (97, .if_icmp .ge 30, 3) rfl) rfl (fun c97 => ?_) (fun c97 => ?_)
  · have P := P.1 c97
    refine mx_aload_n (pc := 127) 0 (mx_dd dd_X12_lineOf_1 27 (127, .aload_n 0, 1) rfl) rfl rfl ?_
    obtain ⟨g1, P⟩ := P
    refine mx_getI (pc := 128) mx_fl_X12_349 g1 rfl (mx_dd dd_X12_lineOf_1 28 (128, .getfield 349, 3) rfl) ?_
    exact mx_ireturn (pc := 131) (mx_dd dd_X12_lineOf_1 29 (131, .ireturn, 1) rfl) rfl rfl P
  · have P := P.2 c97
    refine mx_aload_n (pc := 100) 0 (mx_dd dd_X12_lineOf_1 11 (100, .aload_n 0, 1) rfl) rfl rfl ?_
    obtain ⟨g2, P⟩ := P
    obtain ⟨b1, g3, P⟩ := P
    refine mx_getR (pc := 101) mx_fl_X12_358 g2 rfl g3 (mx_dd dd_X12_lineOf_1 12 (101, .getfield 358, 3) rfl) ?_
    refine mx_bipush (pc := 104) (v := (80 : Int32)) (mx_dd dd_X12_lineOf_1 13 (104, .bipush 80, 2) rfl) (by decide) ?_
    refine mx_aload_n (pc := 106) 0 (mx_dd dd_X12_lineOf_1 14 (106, .aload_n 0, 1) rfl) rfl rfl ?_
    refine mx_getI (pc := 107) mx_fl_X12_349 g2 rfl (mx_dd dd_X12_lineOf_1 15 (107, .getfield 349, 3) rfl) ?_
    refine mx_imul (pc := 110) (mx_dd dd_X12_lineOf_1 16 (110, .imul, 1) rfl) ?_
    refine mx_iload (pc := 111) 4 (mx_dd dd_X12_lineOf_1 17 (111, .iload 6, 2) rfl) rfl ?_
    refine mx_iadd (pc := 113) (mx_dd dd_X12_lineOf_1 18 (113, .iadd, 1) rfl) ?_
    refine mx_aload_n (pc := 114) 1 (mx_dd dd_X12_lineOf_1 19 (114, .aload_n 1, 1) rfl) rfl rfl ?_
    refine mx_iload_n (pc := 115) 2 (mx_dd dd_X12_lineOf_1 20 (115, .iload_n 2, 1) rfl) rfl rfl ?_
    refine mx_iload (pc := 116) 4 (mx_dd dd_X12_lineOf_1 21 (116, .iload 6, 2) rfl) rfl ?_
    refine mx_iadd (pc := 118) (mx_dd dd_X12_lineOf_1 22 (118, .iadd, 1) rfl) ?_
    obtain ⟨g4, P⟩ := P
    obtain ⟨g5, P⟩ := P
    refine mx_bald (pc := 119) g4 g5 (mx_dd dd_X12_lineOf_1 23 (119, .baload, 1) rfl) ?_
    obtain ⟨g6, P⟩ := P
    obtain ⟨g7, P⟩ := P
    refine mx_bast (pc := 120) g6 g7 (mx_dd dd_X12_lineOf_1 24 (120, .bastore, 1) rfl) ?_
    have P := P _ rfl
    refine mx_iinc (pc := 121) 4 (mx_dd dd_X12_lineOf_1 25 (121, .iinc 6 1, 3) rfl) rfl (mx_kadd (by decide : Int32.ofInt 1 = (1 : Int32))) (by decide) (lv' := [(6, _), (0, _), (1, _), (2, _), (4, _)]) rfl ?_
    refine mx_goto (pc := 124) 93 (mx_dd dd_X12_lineOf_1 26 (124, .goto (-31), 3) rfl) rfl ?_
    refine mx_sel [1, 2, 3, 4, 0] rfl ?_
    exact P
theorem b_X12_fileOf {d : Nat} {h : mxH} {Q : mxRes → mxH → Prop} (x0 : Nat) (x1 : Int64)
    (P : mx_SX mY_X12_fileOf d 2 [(0, .ref x0), (1, .long x1), (3, .int (0 : Int32))] [] h Q) : mx_SM mY_X12_fileOf d [.ref x0, .long x1] h Q := by
  refine mx_SM_of (by decide) (Nat.le_of_ble_eq_true rfl) ?_
  show mx_SX mY_X12_fileOf d 0 [(0, .ref x0), (1, .long x1)] [] h Q
  refine mx_iconst (pc := 0) (v := (0 : Int32)) (mx_dd dd_X12_fileOf 0 (0, .iconst 0, 1) rfl) (by decide) ?_
  refine mx_istore_n (pc := 1) (mx_dd dd_X12_fileOf 1 (1, .istore_n 3, 1) rfl) rfl (by decide) (lv' := [(3, _), (0, _), (1, _)]) rfl ?_
  refine mx_sel [1, 2, 0] rfl ?_
  exact P
theorem b_X12_fileOf_2 {d : Nat} {h : mxH} {Q : mxRes → mxH → Prop} (x0 : Nat) (x1 : Int64) (x3 : Int32)
    (P : hpK h x0 = 12 ∧ ∃ b1 : Nat, hpR h x0 56 = some b1 ∧ hpK h b1 = 14 ∧ vp_in (0 : Int32) (hpZ h b1) ∧ (((hpI h b1 (0 : Int32).toNatClampNeg) ≤ x3 → Q (.inl (some (.int (-1 : Int32)))) h) ∧ (¬ (hpI h b1 (0 : Int32).toNatClampNeg) ≤ x3 → ∃ b2 : Nat, hpR h x0 57 = some b2 ∧ hpK h b2 = 15 ∧ vp_in x3 (hpZ h b2) ∧ ((¬ (lg_cmp (hpL h b2 x3.toNatClampNeg) x1) = 0 → mx_SX mY_X12_fileOf d 2 [(0, .ref x0), (1, .long x1), (3, .int (x3 + (1 : Int32)))] [] h Q) ∧ ((lg_cmp (hpL h b2 x3.toNatClampNeg) x1) = 0 → Q (.inl (some (.int x3))) h))))) : mx_SX mY_X12_fileOf d 2 [(0, .ref x0), (1, .long x1), (3, .int x3)] [] h Q := by
  refine mx_iload_n (pc := 2) 2 (mx_dd dd_X12_fileOf 2 (2, .iload_n 3, 1) rfl) rfl rfl ?_
  refine mx_aload_n (pc := 3) 0 (mx_dd dd_X12_fileOf 3 (3, .aload_n 0, 1) rfl) rfl rfl ?_
  obtain ⟨g1, P⟩ := P
  obtain ⟨b1, g2, P⟩ := P
  refine mx_getR (pc := 4) mx_fl_X12_312 g1 rfl g2 (mx_dd dd_X12_fileOf 4 (4, .getfield 312, 3) rfl) ?_
  refine mx_iconst (pc := 7) (v := (0 : Int32)) (mx_dd dd_X12_fileOf 5 (7, .iconst 0, 1) rfl) (by decide) ?_
  obtain ⟨g3, P⟩ := P
  obtain ⟨g4, P⟩ := P
  refine mx_iald (pc := 8) g3 g4 (mx_dd dd_X12_fileOf 6 (8, .iaload, 1) rfl) ?_
  refine mx_icmp_ge (pc := 9) 31 (mx_dd dd_X12_fileOf 7 (9, .if_icmp .ge 22, 3) rfl) rfl (fun c9 => ?_) (fun c9 => ?_)
  · have P := P.1 c9
    refine mx_iconst (pc := 31) (v := (-1 : Int32)) (mx_dd dd_X12_fileOf 19 (31, .iconst (-1), 1) rfl) (by decide) ?_
    exact mx_ireturn (pc := 32) (mx_dd dd_X12_fileOf 20 (32, .ireturn, 1) rfl) rfl rfl P
  · have P := P.2 c9
    refine mx_aload_n (pc := 12) 0 (mx_dd dd_X12_fileOf 8 (12, .aload_n 0, 1) rfl) rfl rfl ?_
    obtain ⟨b2, g5, P⟩ := P
    refine mx_getR (pc := 13) mx_fl_X12_361 g1 rfl g5 (mx_dd dd_X12_fileOf 9 (13, .getfield 361, 3) rfl) ?_
    refine mx_iload_n (pc := 16) 2 (mx_dd dd_X12_fileOf 10 (16, .iload_n 3, 1) rfl) rfl rfl ?_
    obtain ⟨g6, P⟩ := P
    obtain ⟨g7, P⟩ := P
    refine mx_lald (pc := 17) g6 g7 (mx_dd dd_X12_fileOf 11 (17, .laload, 1) rfl) ?_
    refine mx_lload_n (pc := 18) 1 (mx_dd dd_X12_fileOf 12 (18, .lload_n 1, 1) rfl) rfl rfl ?_
    refine mx_lcmp (pc := 19) (mx_dd dd_X12_fileOf 13 (19, .lcmp, 1) rfl) ?_
    refine mx_if_ne (pc := 20) 25 (mx_dd dd_X12_fileOf 14 (20, .ifCond .ne 5, 3) rfl) rfl (fun c20 => ?_) (fun c20 => ?_)
    · have P := P.1 c20
      refine mx_iinc (pc := 25) 2 (mx_dd dd_X12_fileOf 17 (25, .iinc 3 1, 3) rfl) rfl (mx_kadd (by decide : Int32.ofInt 1 = (1 : Int32))) (by decide) (lv' := [(3, _), (0, _), (1, _)]) rfl ?_
      refine mx_goto (pc := 28) 2 (mx_dd dd_X12_fileOf 18 (28, .goto (-26), 3) rfl) rfl ?_
      refine mx_sel [1, 2, 0] rfl ?_
      exact P
    · have P := P.2 c20
      refine mx_iload_n (pc := 23) 2 (mx_dd dd_X12_fileOf 15 (23, .iload_n 3, 1) rfl) rfl rfl ?_
      exact mx_ireturn (pc := 24) (mx_dd dd_X12_fileOf 16 (24, .ireturn, 1) rfl) rfl rfl P
theorem b_X12_linesOf {d : Nat} {h : mxH} {Q : mxRes → mxH → Prop} (x0 : Nat) (x1 : Int32)
    (P : hpK h x0 = 12 ∧ ∃ b1 : Nat, hpR h x0 56 = some b1 ∧ hpK h b1 = 14 ∧ vp_in ((1 : Int32) + ((41 : Int32) * x1)) (hpZ h b1) ∧ Q (.inl (some (.int (hpI h b1 ((1 : Int32) + ((41 : Int32) * x1)).toNatClampNeg)))) h) : mx_SM mY_X12_linesOf d [.ref x0, .int x1] h Q := by
  refine mx_SM_of (by decide) (Nat.le_of_ble_eq_true rfl) ?_
  show mx_SX mY_X12_linesOf d 0 [(0, .ref x0), (1, .int x1)] [] h Q
  refine mx_aload_n (pc := 0) 0 (mx_dd dd_X12_linesOf 0 (0, .aload_n 0, 1) rfl) rfl rfl ?_
  obtain ⟨g1, P⟩ := P
  obtain ⟨b1, g2, P⟩ := P
  refine mx_getR (pc := 1) mx_fl_X12_312 g1 rfl g2 (mx_dd dd_X12_linesOf 1 (1, .getfield 312, 3) rfl) ?_
  refine mx_iconst (pc := 4) (v := (1 : Int32)) (mx_dd dd_X12_linesOf 2 (4, .iconst 1, 1) rfl) (by decide) ?_
  refine mx_bipush (pc := 5) (v := (41 : Int32)) (mx_dd dd_X12_linesOf 3 (5, .bipush 41, 2) rfl) (by decide) ?_
  refine mx_iload_n (pc := 7) 1 (mx_dd dd_X12_linesOf 4 (7, .iload_n 1, 1) rfl) rfl rfl ?_
  refine mx_imul (pc := 8) (mx_dd dd_X12_linesOf 5 (8, .imul, 1) rfl) ?_
  refine mx_iadd (pc := 9) (mx_dd dd_X12_linesOf 6 (9, .iadd, 1) rfl) ?_
  obtain ⟨g3, P⟩ := P
  obtain ⟨g4, P⟩ := P
  refine mx_iald (pc := 10) g3 g4 (mx_dd dd_X12_linesOf 7 (10, .iaload, 1) rfl) ?_
  exact mx_ireturn (pc := 11) (mx_dd dd_X12_linesOf 8 (11, .ireturn, 1) rfl) rfl rfl P
theorem b_X12_lineIn {d : Nat} {h : mxH} {Q : mxRes → mxH → Prop} (x0 : Nat) (x1 : Int32) (x2 : Int32)
    (P : hpK h x0 = 12 ∧ ∃ b1 : Nat, hpR h x0 56 = some b1 ∧ hpK h b1 = 14 ∧ vp_in ((((1 : Int32) + ((41 : Int32) * x1)) + (1 : Int32)) + x2) (hpZ h b1) ∧ Q (.inl (some (.int (hpI h b1 ((((1 : Int32) + ((41 : Int32) * x1)) + (1 : Int32)) + x2).toNatClampNeg)))) h) : mx_SM mY_X12_lineIn d [.ref x0, .int x1, .int x2] h Q := by
  refine mx_SM_of (by decide) (Nat.le_of_ble_eq_true rfl) ?_
  show mx_SX mY_X12_lineIn d 0 [(0, .ref x0), (1, .int x1), (2, .int x2)] [] h Q
  refine mx_aload_n (pc := 0) 0 (mx_dd dd_X12_lineIn 0 (0, .aload_n 0, 1) rfl) rfl rfl ?_
  obtain ⟨g1, P⟩ := P
  obtain ⟨b1, g2, P⟩ := P
  refine mx_getR (pc := 1) mx_fl_X12_312 g1 rfl g2 (mx_dd dd_X12_lineIn 1 (1, .getfield 312, 3) rfl) ?_
  refine mx_iconst (pc := 4) (v := (1 : Int32)) (mx_dd dd_X12_lineIn 2 (4, .iconst 1, 1) rfl) (by decide) ?_
  refine mx_bipush (pc := 5) (v := (41 : Int32)) (mx_dd dd_X12_lineIn 3 (5, .bipush 41, 2) rfl) (by decide) ?_
  refine mx_iload_n (pc := 7) 1 (mx_dd dd_X12_lineIn 4 (7, .iload_n 1, 1) rfl) rfl rfl ?_
  refine mx_imul (pc := 8) (mx_dd dd_X12_lineIn 5 (8, .imul, 1) rfl) ?_
  refine mx_iadd (pc := 9) (mx_dd dd_X12_lineIn 6 (9, .iadd, 1) rfl) ?_
  refine mx_iconst (pc := 10) (v := (1 : Int32)) (mx_dd dd_X12_lineIn 7 (10, .iconst 1, 1) rfl) (by decide) ?_
  refine mx_iadd (pc := 11) (mx_dd dd_X12_lineIn 8 (11, .iadd, 1) rfl) ?_
  refine mx_iload_n (pc := 12) 2 (mx_dd dd_X12_lineIn 9 (12, .iload_n 2, 1) rfl) rfl rfl ?_
  refine mx_iadd (pc := 13) (mx_dd dd_X12_lineIn 10 (13, .iadd, 1) rfl) ?_
  obtain ⟨g3, P⟩ := P
  obtain ⟨g4, P⟩ := P
  refine mx_iald (pc := 14) g3 g4 (mx_dd dd_X12_lineIn 11 (14, .iaload, 1) rfl) ?_
  exact mx_ireturn (pc := 15) (mx_dd dd_X12_lineIn 12 (15, .ireturn, 1) rfl) rfl rfl P
theorem b_X12_setsLine {d : Nat} {h : mxH} {Q : mxRes → mxH → Prop} (x0 : Nat) (x1 : Int32) (x2 : Int32) (x3 : Int32)
    (P : hpK h x0 = 12 ∧ ∃ b1 : Nat, hpR h x0 56 = some b1 ∧ hpK h b1 = 14 ∧ vp_in ((((1 : Int32) + ((41 : Int32) * x1)) + (1 : Int32)) + x2) (hpZ h b1) ∧ ∀ h1 : mxH, h1 = hsI h b1 ((((1 : Int32) + ((41 : Int32) * x1)) + (1 : Int32)) + x2).toNatClampNeg x3 → Q (.inl none) h1) : mx_SM mY_X12_setsLine d [.ref x0, .int x1, .int x2, .int x3] h Q := by
  refine mx_SM_of (by decide) (Nat.le_of_ble_eq_true rfl) ?_
  show mx_SX mY_X12_setsLine d 0 [(0, .ref x0), (1, .int x1), (2, .int x2), (3, .int x3)] [] h Q
  refine mx_aload_n (pc := 0) 0 (mx_dd dd_X12_setsLine 0 (0, .aload_n 0, 1) rfl) rfl rfl ?_
  obtain ⟨g1, P⟩ := P
  obtain ⟨b1, g2, P⟩ := P
  refine mx_getR (pc := 1) mx_fl_X12_312 g1 rfl g2 (mx_dd dd_X12_setsLine 1 (1, .getfield 312, 3) rfl) ?_
  refine mx_iconst (pc := 4) (v := (1 : Int32)) (mx_dd dd_X12_setsLine 2 (4, .iconst 1, 1) rfl) (by decide) ?_
  refine mx_bipush (pc := 5) (v := (41 : Int32)) (mx_dd dd_X12_setsLine 3 (5, .bipush 41, 2) rfl) (by decide) ?_
  refine mx_iload_n (pc := 7) 1 (mx_dd dd_X12_setsLine 4 (7, .iload_n 1, 1) rfl) rfl rfl ?_
  refine mx_imul (pc := 8) (mx_dd dd_X12_setsLine 5 (8, .imul, 1) rfl) ?_
  refine mx_iadd (pc := 9) (mx_dd dd_X12_setsLine 6 (9, .iadd, 1) rfl) ?_
  refine mx_iconst (pc := 10) (v := (1 : Int32)) (mx_dd dd_X12_setsLine 7 (10, .iconst 1, 1) rfl) (by decide) ?_
  refine mx_iadd (pc := 11) (mx_dd dd_X12_setsLine 8 (11, .iadd, 1) rfl) ?_
  refine mx_iload_n (pc := 12) 2 (mx_dd dd_X12_setsLine 9 (12, .iload_n 2, 1) rfl) rfl rfl ?_
  refine mx_iadd (pc := 13) (mx_dd dd_X12_setsLine 10 (13, .iadd, 1) rfl) ?_
  refine mx_iload_n (pc := 14) 3 (mx_dd dd_X12_setsLine 11 (14, .iload_n 3, 1) rfl) rfl rfl ?_
  obtain ⟨g3, P⟩ := P
  obtain ⟨g4, P⟩ := P
  refine mx_iast (pc := 15) g3 g4 (mx_dd dd_X12_setsLine 12 (15, .iastore, 1) rfl) ?_
  have P := P _ rfl
  exact mx_return (pc := 16) (mx_dd dd_X12_setsLine 13 (16, .return_, 1) rfl) rfl P
theorem b_X12_makes {d : Nat} {h : mxH} {Q : mxRes → mxH → Prop} (x0 : Nat) (x1 : Int64)
    (P : 1 ≤ d ∧ hpK h x0 = 12 ∧ mx_SM mY_X12_fileOf (d - 1) [.ref x0, .long x1] h (mx_KI (fun v1 h1 => ((¬ v1 = (-1 : Int32) → Q (.inl (some (.int v1))) h1) ∧ (v1 = (-1 : Int32) → hpK h1 x0 = 12 ∧ ∃ b1 : Nat, hpR h1 x0 56 = some b1 ∧ hpK h1 b1 = 14 ∧ vp_in (0 : Int32) (hpZ h1 b1) ∧ ((¬ (hpI h1 b1 (0 : Int32).toNatClampNeg) = (8 : Int32) → ∀ h2 : mxH, h2 = hsI h1 b1 (0 : Int32).toNatClampNeg ((hpI h1 b1 (0 : Int32).toNatClampNeg) + (1 : Int32)) → ∃ b2 : Nat, hpR h2 x0 57 = some b2 ∧ hpK h2 b2 = 15 ∧ vp_in (hpI h1 b1 (0 : Int32).toNatClampNeg) (hpZ h2 b2) ∧ ∀ h3 : mxH, h3 = hsL h2 b2 (hpI h1 b1 (0 : Int32).toNatClampNeg).toNatClampNeg x1 → ∃ b3 : Nat, hpR h3 x0 56 = some b3 ∧ hpK h3 b3 = 14 ∧ vp_in ((1 : Int32) + ((41 : Int32) * (hpI h1 b1 (0 : Int32).toNatClampNeg))) (hpZ h3 b3) ∧ ∀ h4 : mxH, h4 = hsI h3 b3 ((1 : Int32) + ((41 : Int32) * (hpI h1 b1 (0 : Int32).toNatClampNeg))).toNatClampNeg (0 : Int32) → Q (.inl (some (.int (hpI h1 b1 (0 : Int32).toNatClampNeg)))) h4) ∧ ((hpI h1 b1 (0 : Int32).toNatClampNeg) = (8 : Int32) → Q (.inl (some (.int v1))) h1))))) (mx_XX mY_X12_makes Q))) : mx_SM mY_X12_makes d [.ref x0, .long x1] h Q := by
  refine mx_SM_of (by decide) (Nat.le_of_ble_eq_true rfl) ?_
  show mx_SX mY_X12_makes d 0 [(0, .ref x0), (1, .long x1)] [] h Q
  refine mx_aload_n (pc := 0) 0 (mx_dd dd_X12_makes 0 (0, .aload_n 0, 1) rfl) rfl rfl ?_
  refine mx_lload_n (pc := 1) 1 (mx_dd dd_X12_makes 1 (1, .lload_n 1, 1) rfl) rfl rfl ?_
  obtain ⟨g1, P⟩ := P
  obtain ⟨g2, P⟩ := P
  refine mx_cVI (pc := 2) (Y := mY_X12_fileOf) (As := [.long _]) mx_ml_X12_364 mx_y_X12_fileOf rfl g2 (by decide) rfl (by decide) rfl (mx_dd dd_X12_makes 2 (2, .invokevirtual 364, 3) rfl) g1 (by decide) P (fun v1 h1 P => ?_)
  refine mx_istore_n (pc := 5) (mx_dd dd_X12_makes 3 (5, .istore_n 3, 1) rfl) rfl (by decide) (lv' := [(3, _), (0, _), (1, _)]) rfl ?_
  refine mx_iload_n (pc := 6) 0 (mx_dd dd_X12_makes 4 (6, .iload_n 3, 1) rfl) rfl rfl ?_
  refine mx_iconst (pc := 7) (v := (-1 : Int32)) (mx_dd dd_X12_makes 5 (7, .iconst (-1), 1) rfl) (by decide) ?_
  refine mx_icmp_ne (pc := 8) 22 (mx_dd dd_X12_makes 6 (8, .if_icmp .ne 14, 3) rfl) rfl (fun c8 => ?_) (fun c8 => ?_)
  · have P := P.1 c8
    refine mx_iload_n (pc := 22) 0 (mx_dd dd_X12_makes 13 (22, .iload_n 3, 1) rfl) rfl rfl ?_
    exact mx_ireturn (pc := 23) (mx_dd dd_X12_makes 14 (23, .ireturn, 1) rfl) rfl rfl P
  · have P := P.2 c8
    refine mx_aload_n (pc := 11) 1 (mx_dd dd_X12_makes 7 (11, .aload_n 0, 1) rfl) rfl rfl ?_
    obtain ⟨g3, P⟩ := P
    obtain ⟨b1, g4, P⟩ := P
    refine mx_getR (pc := 12) mx_fl_X12_312 g3 rfl g4 (mx_dd dd_X12_makes 8 (12, .getfield 312, 3) rfl) ?_
    refine mx_iconst (pc := 15) (v := (0 : Int32)) (mx_dd dd_X12_makes 9 (15, .iconst 0, 1) rfl) (by decide) ?_
    obtain ⟨g5, P⟩ := P
    obtain ⟨g6, P⟩ := P
    refine mx_iald (pc := 16) g5 g6 (mx_dd dd_X12_makes 10 (16, .iaload, 1) rfl) ?_
    refine mx_bipush (pc := 17) (v := (8 : Int32)) (mx_dd dd_X12_makes 11 (17, .bipush 8, 2) rfl) (by decide) ?_
    refine mx_icmp_ne (pc := 19) 24 (mx_dd dd_X12_makes 12 (19, .if_icmp .ne 5, 3) rfl) rfl (fun c19 => ?_) (fun c19 => ?_)
    · have P := P.1 c19
      refine mx_aload_n (pc := 24) 1 (mx_dd dd_X12_makes 15 (24, .aload_n 0, 1) rfl) rfl rfl ?_
      refine mx_getR (pc := 25) mx_fl_X12_312 g3 rfl g4 (mx_dd dd_X12_makes 16 (25, .getfield 312, 3) rfl) ?_
      refine mx_iconst (pc := 28) (v := (0 : Int32)) (mx_dd dd_X12_makes 17 (28, .iconst 0, 1) rfl) (by decide) ?_
      refine mx_iald (pc := 29) g5 g6 (mx_dd dd_X12_makes 18 (29, .iaload, 1) rfl) ?_
      refine mx_istore_n (pc := 30) (mx_dd dd_X12_makes 19 (30, .istore_n 3, 1) rfl) rfl (by decide) (lv' := [(3, _), (0, _), (1, _)]) rfl ?_
      refine mx_aload_n (pc := 31) 1 (mx_dd dd_X12_makes 20 (31, .aload_n 0, 1) rfl) rfl rfl ?_
      refine mx_getR (pc := 32) mx_fl_X12_312 g3 rfl g4 (mx_dd dd_X12_makes 21 (32, .getfield 312, 3) rfl) ?_
      refine mx_iconst (pc := 35) (v := (0 : Int32)) (mx_dd dd_X12_makes 22 (35, .iconst 0, 1) rfl) (by decide) ?_
      refine mx_dup2 (pc := 36) (mx_dd dd_X12_makes 23 (36, .dup2, 1) rfl) rfl rfl ?_
      refine mx_iald (pc := 37) g5 g6 (mx_dd dd_X12_makes 24 (37, .iaload, 1) rfl) ?_
      refine mx_iconst (pc := 38) (v := (1 : Int32)) (mx_dd dd_X12_makes 25 (38, .iconst 1, 1) rfl) (by decide) ?_
      refine mx_iadd (pc := 39) (mx_dd dd_X12_makes 26 (39, .iadd, 1) rfl) ?_
      refine mx_iast (pc := 40) g5 g6 (mx_dd dd_X12_makes 27 (40, .iastore, 1) rfl) ?_
      have P := P _ rfl
      refine mx_aload_n (pc := 41) 1 (mx_dd dd_X12_makes 28 (41, .aload_n 0, 1) rfl) rfl rfl ?_
      obtain ⟨b2, g7, P⟩ := P
      refine mx_getR (pc := 42) mx_fl_X12_361 g3 rfl g7 (mx_dd dd_X12_makes 29 (42, .getfield 361, 3) rfl) ?_
      refine mx_iload_n (pc := 45) 0 (mx_dd dd_X12_makes 30 (45, .iload_n 3, 1) rfl) rfl rfl ?_
      refine mx_lload_n (pc := 46) 2 (mx_dd dd_X12_makes 31 (46, .lload_n 1, 1) rfl) rfl rfl ?_
      obtain ⟨g8, P⟩ := P
      obtain ⟨g9, P⟩ := P
      refine mx_last (pc := 47) g8 g9 (mx_dd dd_X12_makes 32 (47, .lastore, 1) rfl) ?_
      have P := P _ rfl
      refine mx_aload_n (pc := 48) 1 (mx_dd dd_X12_makes 33 (48, .aload_n 0, 1) rfl) rfl rfl ?_
      obtain ⟨b3, g10, P⟩ := P
      refine mx_getR (pc := 49) mx_fl_X12_312 g3 rfl g10 (mx_dd dd_X12_makes 34 (49, .getfield 312, 3) rfl) ?_
      refine mx_iconst (pc := 52) (v := (1 : Int32)) (mx_dd dd_X12_makes 35 (52, .iconst 1, 1) rfl) (by decide) ?_
      refine mx_bipush (pc := 53) (v := (41 : Int32)) (mx_dd dd_X12_makes 36 (53, .bipush 41, 2) rfl) (by decide) ?_
      refine mx_iload_n (pc := 55) 0 (mx_dd dd_X12_makes 37 (55, .iload_n 3, 1) rfl) rfl rfl ?_
      refine mx_imul (pc := 56) (mx_dd dd_X12_makes 38 (56, .imul, 1) rfl) ?_
      refine mx_iadd (pc := 57) (mx_dd dd_X12_makes 39 (57, .iadd, 1) rfl) ?_
      refine mx_iconst (pc := 58) (v := (0 : Int32)) (mx_dd dd_X12_makes 40 (58, .iconst 0, 1) rfl) (by decide) ?_
      obtain ⟨g11, P⟩ := P
      obtain ⟨g12, P⟩ := P
      refine mx_iast (pc := 59) g11 g12 (mx_dd dd_X12_makes 41 (59, .iastore, 1) rfl) ?_
      have P := P _ rfl
      refine mx_iload_n (pc := 60) 0 (mx_dd dd_X12_makes 42 (60, .iload_n 3, 1) rfl) rfl rfl ?_
      exact mx_ireturn (pc := 61) (mx_dd dd_X12_makes 43 (61, .ireturn, 1) rfl) rfl rfl P
    · have P := P.2 c19
      refine mx_iload_n (pc := 22) 0 (mx_dd dd_X12_makes 13 (22, .iload_n 3, 1) rfl) rfl rfl ?_
      exact mx_ireturn (pc := 23) (mx_dd dd_X12_makes 14 (23, .ireturn, 1) rfl) rfl rfl P
theorem b_X12_sweepsOpen {d : Nat} {h : mxH} {Q : mxRes → mxH → Prop} (x0 : Nat)
    (P : mx_SX mY_X12_sweepsOpen d 2 [(0, .ref x0), (1, .int (0 : Int32))] [] h Q) : mx_SM mY_X12_sweepsOpen d [.ref x0] h Q := by
  refine mx_SM_of (by decide) (Nat.le_of_ble_eq_true rfl) ?_
  show mx_SX mY_X12_sweepsOpen d 0 [(0, .ref x0)] [] h Q
  refine mx_iconst (pc := 0) (v := (0 : Int32)) (mx_dd dd_X12_sweepsOpen_0 0 (0, .iconst 0, 1) rfl) (by decide) ?_
  refine mx_istore_n (pc := 1) (mx_dd dd_X12_sweepsOpen_0 1 (1, .istore_n 1, 1) rfl) rfl (by decide) (lv' := [(1, _), (0, _)]) rfl ?_
  refine mx_sel [1, 0] rfl ?_
  exact P
theorem b_X12_sweepsOpen_2 {d : Nat} {h : mxH} {Q : mxRes → mxH → Prop} (x0 : Nat) (x1 : Int32)
    (P : (((4000 : Int32) ≤ x1 → mx_SX mY_X12_sweepsOpen d 24 [(0, .ref x0), (1, .int (0 : Int32))] [] h Q) ∧ (¬ (4000 : Int32) ≤ x1 → hpK h x0 = 12 ∧ ∃ b1 : Nat, hpR h x0 70 = some b1 ∧ hpK h b1 = 16 ∧ vp_in x1 (hpZ h b1) ∧ ∀ h1 : mxH, h1 = hsI h b1 x1.toNatClampNeg ((0 : Int32) &&& 1) → mx_SX mY_X12_sweepsOpen d 2 [(0, .ref x0), (1, .int (x1 + (1 : Int32)))] [] h1 Q))) : mx_SX mY_X12_sweepsOpen d 2 [(0, .ref x0), (1, .int x1)] [] h Q := by
  refine mx_iload_n (pc := 2) 1 (mx_dd dd_X12_sweepsOpen_0 2 (2, .iload_n 1, 1) rfl) rfl rfl ?_
  refine mx_sipush (pc := 3) (v := (4000 : Int32)) (mx_dd dd_X12_sweepsOpen_0 3 (3, .sipush 4000, 3) rfl) (by decide) ?_
  refine mx_icmp_ge (pc := 6) 22 (mx_dd dd_X12_sweepsOpen_0 4 (6, .if_icmp .ge 16, 3) rfl) rfl (fun c6 => ?_) (fun c6 => ?_)
  · have P := P.1 c6
    refine mx_iconst (pc := 22) (v := (0 : Int32)) (mx_dd dd_X12_sweepsOpen_0 12 (22, .iconst 0, 1) rfl) (by decide) ?_
    refine mx_istore_n (pc := 23) (mx_dd dd_X12_sweepsOpen_0 13 (23, .istore_n 1, 1) rfl) rfl (by decide) (lv' := [(1, _), (0, _)]) rfl ?_
    refine mx_sel [1, 0] rfl ?_
    exact P
  · have P := P.2 c6
    refine mx_aload_n (pc := 9) 0 (mx_dd dd_X12_sweepsOpen_0 5 (9, .aload_n 0, 1) rfl) rfl rfl ?_
    obtain ⟨g1, P⟩ := P
    obtain ⟨b1, g2, P⟩ := P
    refine mx_getR (pc := 10) mx_fl_X12_368 g1 rfl g2 (mx_dd dd_X12_sweepsOpen_0 6 (10, .getfield 368, 3) rfl) ?_
    refine mx_iload_n (pc := 13) 1 (mx_dd dd_X12_sweepsOpen_0 7 (13, .iload_n 1, 1) rfl) rfl rfl ?_
    refine mx_iconst (pc := 14) (v := (0 : Int32)) (mx_dd dd_X12_sweepsOpen_0 8 (14, .iconst 0, 1) rfl) (by decide) ?_
    obtain ⟨g3, P⟩ := P
    obtain ⟨g4, P⟩ := P
    refine mx_zast (pc := 15) g3 g4 (mx_dd dd_X12_sweepsOpen_0 9 (15, .bastore, 1) rfl) ?_
    have P := P _ rfl
    refine mx_iinc (pc := 16) 1 (mx_dd dd_X12_sweepsOpen_0 10 (16, .iinc 1 1, 3) rfl) rfl (mx_kadd (by decide : Int32.ofInt 1 = (1 : Int32))) (by decide) (lv' := [(1, _), (0, _)]) rfl ?_
    refine mx_goto (pc := 19) 2 (mx_dd dd_X12_sweepsOpen_0 11 (19, .goto (-17), 3) rfl) rfl ?_
    refine mx_sel [1, 0] rfl ?_
    exact P
theorem b_X12_sweepsOpen_24 {d : Nat} {h : mxH} {Q : mxRes → mxH → Prop} (x0 : Nat) (x1 : Int32)
    (P : (((1000 : Int32) ≤ x1 → mx_SX mY_X12_sweepsOpen d 91 [(0, .ref x0), (1, .int (0 : Int32))] [] h Q) ∧ (¬ (1000 : Int32) ≤ x1 → mx_SX mY_X12_sweepsOpen d 33 [(0, .ref x0), (1, .int x1), (2, .int (0 : Int32))] [] h Q))) : mx_SX mY_X12_sweepsOpen d 24 [(0, .ref x0), (1, .int x1)] [] h Q := by
  refine mx_iload_n (pc := 24) 1 (mx_dd dd_X12_sweepsOpen_0 14 (24, .iload_n 1, 1) rfl) rfl rfl ?_
  refine mx_sipush (pc := 25) (v := (1000 : Int32)) (mx_dd dd_X12_sweepsOpen_0 15 (25, .sipush 1000, 3) rfl) (by decide) ?_
  refine mx_icmp_ge (pc := 28) 89 (mx_dd dd_X12_sweepsOpen_0 16 (28, .if_icmp .ge 61, 3) rfl) rfl (fun c28 => ?_) (fun c28 => ?_)
  · have P := P.1 c28
    refine mx_iconst (pc := 89) (v := (0 : Int32)) (mx_dd dd_X12_sweepsOpen_1 10 (89, .iconst 0, 1) rfl) (by decide) ?_
    refine mx_istore_n (pc := 90) (mx_dd dd_X12_sweepsOpen_1 11 (90, .istore_n 1, 1) rfl) rfl (by decide) (lv' := [(1, _), (0, _)]) rfl ?_
    refine mx_sel [1, 0] rfl ?_
    exact P
  · have P := P.2 c28
    refine mx_iconst (pc := 31) (v := (0 : Int32)) (mx_dd dd_X12_sweepsOpen_0 17 (31, .iconst 0, 1) rfl) (by decide) ?_
    refine mx_istore_n (pc := 32) (mx_dd dd_X12_sweepsOpen_0 18 (32, .istore_n 2, 1) rfl) rfl (by decide) (lv' := [(2, _), (0, _), (1, _)]) rfl ?_
    refine mx_sel [1, 2, 0] rfl ?_
    exact P
theorem b_X12_sweepsOpen_33 {d : Nat} {h : mxH} {Q : mxRes → mxH → Prop} (x0 : Nat) (x1 : Int32) (x2 : Int32)
    (P : (((10 : Int32) ≤ x2 → mx_SX mY_X12_sweepsOpen d 83 [(0, .ref x0), (1, .int x1)] [] h Q) ∧ (¬ (10 : Int32) ≤ x2 → hpK h x0 = 12 ∧ ∃ b1 : Nat, hpR h x0 71 = some b1 ∧ hpK h b1 = 14 ∧ vp_in (((83 : Int32) * x1) + (82 : Int32)) (hpZ h b1) ∧ ((¬ (hpI h b1 (((83 : Int32) * x1) + (82 : Int32)).toNatClampNeg) = (1 : Int32) → mx_SX mY_X12_sweepsOpen d 83 [(0, .ref x0), (1, .int x1)] [] h Q) ∧ ((hpI h b1 (((83 : Int32) * x1) + (82 : Int32)).toNatClampNeg) = (1 : Int32) → 1 ≤ d ∧ mx_SM mY_X12_handle (d - 1) [.ref x0, .int x1, .int x2] h (mx_KI (fun v1 h1 => ((v1 = (-1 : Int32) → mx_SX mY_X12_sweepsOpen d 77 [(0, .ref x0), (1, .int x1), (2, .int x2)] [] h1 Q) ∧ (¬ v1 = (-1 : Int32) → hpK h1 x0 = 12 ∧ ∃ b2 : Nat, hpR h1 x0 70 = some b2 ∧ mx_SM mY_X12_handle (d - 1) [.ref x0, .int x1, .int x2] h1 (mx_KI (fun v2 h2 => hpK h2 b2 = 16 ∧ vp_in v2 (hpZ h2 b2) ∧ ∀ h3 : mxH, h3 = hsI h2 b2 v2.toNatClampNeg ((1 : Int32) &&& 1) → mx_SX mY_X12_sweepsOpen d 77 [(0, .ref x0), (1, .int x1), (2, .int x2)] [] h3 Q) (mx_XX mY_X12_sweepsOpen Q))))) (mx_XX mY_X12_sweepsOpen Q))))))) : mx_SX mY_X12_sweepsOpen d 33 [(0, .ref x0), (1, .int x1), (2, .int x2)] [] h Q := by
  refine mx_iload_n (pc := 33) 2 (mx_dd dd_X12_sweepsOpen_0 19 (33, .iload_n 2, 1) rfl) rfl rfl ?_
  refine mx_bipush (pc := 34) (v := (10 : Int32)) (mx_dd dd_X12_sweepsOpen_0 20 (34, .bipush 10, 2) rfl) (by decide) ?_
  refine mx_icmp_ge (pc := 36) 83 (mx_dd dd_X12_sweepsOpen_0 21 (36, .if_icmp .ge 47, 3) rfl) rfl (fun c36 => ?_) (fun c36 => ?_)
  · have P := P.1 c36
    refine mx_sel [0, 1] rfl ?_
    exact P
  · have P := P.2 c36
    refine mx_aload_n (pc := 39) 0 (mx_dd dd_X12_sweepsOpen_0 22 (39, .aload_n 0, 1) rfl) rfl rfl ?_
    obtain ⟨g1, P⟩ := P
    obtain ⟨b1, g2, P⟩ := P
    refine mx_getR (pc := 40) mx_fl_X12_319 g1 rfl g2 (mx_dd dd_X12_sweepsOpen_0 23 (40, .getfield 319, 3) rfl) ?_
    refine mx_bipush (pc := 43) (v := (83 : Int32)) (mx_dd dd_X12_sweepsOpen_0 24 (43, .bipush 83, 2) rfl) (by decide) ?_
    refine mx_iload_n (pc := 45) 1 (mx_dd dd_X12_sweepsOpen_0 25 (45, .iload_n 1, 1) rfl) rfl rfl ?_
    refine mx_imul (pc := 46) (mx_dd dd_X12_sweepsOpen_0 26 (46, .imul, 1) rfl) ?_
    refine mx_bipush (pc := 47) (v := (82 : Int32)) (mx_dd dd_X12_sweepsOpen_0 27 (47, .bipush 82, 2) rfl) (by decide) ?_
    refine mx_iadd (pc := 49) (mx_dd dd_X12_sweepsOpen_0 28 (49, .iadd, 1) rfl) ?_
    obtain ⟨g3, P⟩ := P
    obtain ⟨g4, P⟩ := P
    refine mx_iald (pc := 50) g3 g4 (mx_dd dd_X12_sweepsOpen_0 29 (50, .iaload, 1) rfl) ?_
    refine mx_iconst (pc := 51) (v := (1 : Int32)) (mx_dd dd_X12_sweepsOpen_0 30 (51, .iconst 1, 1) rfl) (by decide) ?_
    refine mx_icmp_ne (pc := 52) 83 (mx_dd dd_X12_sweepsOpen_0 31 (52, .if_icmp .ne 31, 3) rfl) rfl (fun c52 => ?_) (fun c52 => ?_)
    · have P := P.1 c52
      refine mx_sel [0, 1] rfl ?_
      exact P
    · have P := P.2 c52
      refine mx_aload_n (pc := 55) 0 (mx_dd dd_X12_sweepsOpen_0 32 (55, .aload_n 0, 1) rfl) rfl rfl ?_
      refine mx_iload_n (pc := 56) 1 (mx_dd dd_X12_sweepsOpen_0 33 (56, .iload_n 1, 1) rfl) rfl rfl ?_
      refine mx_iload_n (pc := 57) 2 (mx_dd dd_X12_sweepsOpen_0 34 (57, .iload_n 2, 1) rfl) rfl rfl ?_
      obtain ⟨g5, P⟩ := P
      refine mx_cVI (pc := 58) (Y := mY_X12_handle) (As := [.int _, .int _]) mx_ml_X12_371 mx_y_X12_handle rfl g1 (by decide) rfl (by decide) rfl (mx_dd dd_X12_sweepsOpen_0 35 (58, .invokevirtual 371, 3) rfl) g5 (by decide) P (fun v1 h1 P => ?_)
      refine mx_iconst (pc := 61) (v := (-1 : Int32)) (mx_dd dd_X12_sweepsOpen_0 36 (61, .iconst (-1), 1) rfl) (by decide) ?_
      refine mx_icmp_eq (pc := 62) 77 (mx_dd dd_X12_sweepsOpen_0 37 (62, .if_icmp .eq 15, 3) rfl) rfl (fun c62 => ?_) (fun c62 => ?_)
      · have P := P.1 c62
        exact P
      · have P := P.2 c62
        refine mx_aload_n (pc := 65) 0 (mx_dd dd_X12_sweepsOpen_0 38 (65, .aload_n 0, 1) rfl) rfl rfl ?_
        obtain ⟨g6, P⟩ := P
        obtain ⟨b2, g7, P⟩ := P
        refine mx_getR (pc := 66) mx_fl_X12_368 g6 rfl g7 (mx_dd dd_X12_sweepsOpen_0 39 (66, .getfield 368, 3) rfl) ?_
        refine mx_aload_n (pc := 69) 0 (mx_dd dd_X12_sweepsOpen_1 0 (69, .aload_n 0, 1) rfl) rfl rfl ?_
        refine mx_iload_n (pc := 70) 1 (mx_dd dd_X12_sweepsOpen_1 1 (70, .iload_n 1, 1) rfl) rfl rfl ?_
        refine mx_iload_n (pc := 71) 2 (mx_dd dd_X12_sweepsOpen_1 2 (71, .iload_n 2, 1) rfl) rfl rfl ?_
        refine mx_cVI (pc := 72) (Y := mY_X12_handle) (As := [.int _, .int _]) mx_ml_X12_371 mx_y_X12_handle rfl g6 (by decide) rfl (by simp [Value.category]) rfl (mx_dd dd_X12_sweepsOpen_1 3 (72, .invokevirtual 371, 3) rfl) g5 (by decide) P (fun v2 h2 P => ?_)
        refine mx_iconst (pc := 75) (v := (1 : Int32)) (mx_dd dd_X12_sweepsOpen_1 4 (75, .iconst 1, 1) rfl) (by decide) ?_
        obtain ⟨g8, P⟩ := P
        obtain ⟨g9, P⟩ := P
        refine mx_zast (pc := 76) g8 g9 (mx_dd dd_X12_sweepsOpen_1 5 (76, .bastore, 1) rfl) ?_
        have P := P _ rfl
        exact P
theorem b_X12_sweepsOpen_77 {d : Nat} {h : mxH} {Q : mxRes → mxH → Prop} (x0 : Nat) (x1 : Int32) (x2 : Int32)
    (P : mx_SX mY_X12_sweepsOpen d 33 [(0, .ref x0), (1, .int x1), (2, .int (x2 + (1 : Int32)))] [] h Q) : mx_SX mY_X12_sweepsOpen d 77 [(0, .ref x0), (1, .int x1), (2, .int x2)] [] h Q := by
  refine mx_iinc (pc := 77) 2 (mx_dd dd_X12_sweepsOpen_1 6 (77, .iinc 2 1, 3) rfl) rfl (mx_kadd (by decide : Int32.ofInt 1 = (1 : Int32))) (by decide) (lv' := [(2, _), (0, _), (1, _)]) rfl ?_
  refine mx_goto (pc := 80) 33 (mx_dd dd_X12_sweepsOpen_1 7 (80, .goto (-47), 3) rfl) rfl ?_
  refine mx_sel [1, 2, 0] rfl ?_
  exact P
theorem b_X12_sweepsOpen_83 {d : Nat} {h : mxH} {Q : mxRes → mxH → Prop} (x0 : Nat) (x1 : Int32)
    (P : mx_SX mY_X12_sweepsOpen d 24 [(0, .ref x0), (1, .int (x1 + (1 : Int32)))] [] h Q) : mx_SX mY_X12_sweepsOpen d 83 [(0, .ref x0), (1, .int x1)] [] h Q := by
  refine mx_iinc (pc := 83) 1 (mx_dd dd_X12_sweepsOpen_1 8 (83, .iinc 1 1, 3) rfl) rfl (mx_kadd (by decide : Int32.ofInt 1 = (1 : Int32))) (by decide) (lv' := [(1, _), (0, _)]) rfl ?_
  refine mx_goto (pc := 86) 24 (mx_dd dd_X12_sweepsOpen_1 9 (86, .goto (-62), 3) rfl) rfl ?_
  refine mx_sel [1, 0] rfl ?_
  exact P
theorem b_X12_sweepsOpen_91 {d : Nat} {h : mxH} {Q : mxRes → mxH → Prop} (x0 : Nat) (x1 : Int32)
    (P : hpK h x0 = 12 ∧ (((hpI h x0 69) ≤ x1 → mx_SX mY_X12_sweepsOpen d 129 [(0, .ref x0), (1, .int (0 : Int32))] [] h Q) ∧ (¬ (hpI h x0 69) ≤ x1 → ∃ b1 : Nat, hpR h x0 68 = some b1 ∧ hpK h b1 = 14 ∧ vp_in x1 (hpZ h b1) ∧ (((hpI h b1 x1.toNatClampNeg) = (-1 : Int32) → mx_SX mY_X12_sweepsOpen d 121 [(0, .ref x0), (1, .int x1)] [] h Q) ∧ (¬ (hpI h b1 x1.toNatClampNeg) = (-1 : Int32) → ∃ b2 : Nat, hpR h x0 70 = some b2 ∧ hpK h b2 = 16 ∧ vp_in (hpI h b1 x1.toNatClampNeg) (hpZ h b2) ∧ ∀ h1 : mxH, h1 = hsI h b2 (hpI h b1 x1.toNatClampNeg).toNatClampNeg ((1 : Int32) &&& 1) → mx_SX mY_X12_sweepsOpen d 121 [(0, .ref x0), (1, .int x1)] [] h1 Q))))) : mx_SX mY_X12_sweepsOpen d 91 [(0, .ref x0), (1, .int x1)] [] h Q := by
  refine mx_iload_n (pc := 91) 1 (mx_dd dd_X12_sweepsOpen_1 12 (91, .iload_n 1, 1) rfl) rfl rfl ?_
  refine mx_aload_n (pc := 92) 0 (mx_dd dd_X12_sweepsOpen_1 13 (92, .aload_n 0, 1) rfl) rfl rfl ?_
  obtain ⟨g1, P⟩ := P
  refine mx_getI (pc := 93) mx_fl_X12_374 g1 rfl (mx_dd dd_X12_sweepsOpen_1 14 (93, .getfield 374, 3) rfl) ?_
  refine mx_icmp_ge (pc := 96) 127 (mx_dd dd_X12_sweepsOpen_1 15 (96, .if_icmp .ge 31, 3) rfl) rfl (fun c96 => ?_) (fun c96 => ?_)
  · have P := P.1 c96
    refine mx_iconst (pc := 127) (v := (0 : Int32)) (mx_dd dd_X12_sweepsOpen_1 32 (127, .iconst 0, 1) rfl) (by decide) ?_
    refine mx_istore_n (pc := 128) (mx_dd dd_X12_sweepsOpen_1 33 (128, .istore_n 1, 1) rfl) rfl (by decide) (lv' := [(1, _), (0, _)]) rfl ?_
    refine mx_sel [1, 0] rfl ?_
    exact P
  · have P := P.2 c96
    refine mx_aload_n (pc := 99) 0 (mx_dd dd_X12_sweepsOpen_1 16 (99, .aload_n 0, 1) rfl) rfl rfl ?_
    obtain ⟨b1, g2, P⟩ := P
    refine mx_getR (pc := 100) mx_fl_X12_377 g1 rfl g2 (mx_dd dd_X12_sweepsOpen_1 17 (100, .getfield 377, 3) rfl) ?_
    refine mx_iload_n (pc := 103) 1 (mx_dd dd_X12_sweepsOpen_1 18 (103, .iload_n 1, 1) rfl) rfl rfl ?_
    obtain ⟨g3, P⟩ := P
    obtain ⟨g4, P⟩ := P
    refine mx_iald (pc := 104) g3 g4 (mx_dd dd_X12_sweepsOpen_1 19 (104, .iaload, 1) rfl) ?_
    refine mx_iconst (pc := 105) (v := (-1 : Int32)) (mx_dd dd_X12_sweepsOpen_1 20 (105, .iconst (-1), 1) rfl) (by decide) ?_
    refine mx_icmp_eq (pc := 106) 121 (mx_dd dd_X12_sweepsOpen_1 21 (106, .if_icmp .eq 15, 3) rfl) rfl (fun c106 => ?_) (fun c106 => ?_)
    · have P := P.1 c106
      exact P
    · have P := P.2 c106
      refine mx_aload_n (pc := 109) 0 (mx_dd dd_X12_sweepsOpen_1 22 (109, .aload_n 0, 1) rfl) rfl rfl ?_
      obtain ⟨b2, g5, P⟩ := P
      refine mx_getR (pc := 110) mx_fl_X12_368 g1 rfl g5 (mx_dd dd_X12_sweepsOpen_1 23 (110, .getfield 368, 3) rfl) ?_
      refine mx_aload_n (pc := 113) 0 (mx_dd dd_X12_sweepsOpen_1 24 (113, .aload_n 0, 1) rfl) rfl rfl ?_
      refine mx_getR (pc := 114) mx_fl_X12_377 g1 rfl g2 (mx_dd dd_X12_sweepsOpen_1 25 (114, .getfield 377, 3) rfl) ?_
      refine mx_iload_n (pc := 117) 1 (mx_dd dd_X12_sweepsOpen_1 26 (117, .iload_n 1, 1) rfl) rfl rfl ?_
      refine mx_iald (pc := 118) g3 g4 (mx_dd dd_X12_sweepsOpen_1 27 (118, .iaload, 1) rfl) ?_
      refine mx_iconst (pc := 119) (v := (1 : Int32)) (mx_dd dd_X12_sweepsOpen_1 28 (119, .iconst 1, 1) rfl) (by decide) ?_
      obtain ⟨g6, P⟩ := P
      obtain ⟨g7, P⟩ := P
      refine mx_zast (pc := 120) g6 g7 (mx_dd dd_X12_sweepsOpen_1 29 (120, .bastore, 1) rfl) ?_
      have P := P _ rfl
      exact P
theorem b_X12_sweepsOpen_121 {d : Nat} {h : mxH} {Q : mxRes → mxH → Prop} (x0 : Nat) (x1 : Int32)
    (P : mx_SX mY_X12_sweepsOpen d 91 [(0, .ref x0), (1, .int (x1 + (1 : Int32)))] [] h Q) : mx_SX mY_X12_sweepsOpen d 121 [(0, .ref x0), (1, .int x1)] [] h Q := by
  refine mx_iinc (pc := 121) 1 (mx_dd dd_X12_sweepsOpen_1 30 (121, .iinc 1 1, 3) rfl) rfl (mx_kadd (by decide : Int32.ofInt 1 = (1 : Int32))) (by decide) (lv' := [(1, _), (0, _)]) rfl ?_
  refine mx_goto (pc := 124) 91 (mx_dd dd_X12_sweepsOpen_1 31 (124, .goto (-33), 3) rfl) rfl ?_
  refine mx_sel [1, 0] rfl ?_
  exact P
theorem b_X12_sweepsOpen_129 {d : Nat} {h : mxH} {Q : mxRes → mxH → Prop} (x0 : Nat) (x1 : Int32)
    (P : (((4000 : Int32) ≤ x1 → Q (.inl none) h) ∧ (¬ (4000 : Int32) ≤ x1 → hpK h x0 = 12 ∧ ∃ b1 : Nat, hpR h x0 70 = some b1 ∧ hpK h b1 = 16 ∧ vp_in x1 (hpZ h b1) ∧ ((¬ (hpI h b1 x1.toNatClampNeg) = 0 → mx_SX mY_X12_sweepsOpen d 152 [(0, .ref x0), (1, .int x1)] [] h Q) ∧ ((hpI h b1 x1.toNatClampNeg) = 0 → ∃ b2 : Nat, hpR h x0 58 = some b2 ∧ hpK h b2 = 14 ∧ vp_in x1 (hpZ h b2) ∧ ∀ h1 : mxH, h1 = hsI h b2 x1.toNatClampNeg (0 : Int32) → mx_SX mY_X12_sweepsOpen d 152 [(0, .ref x0), (1, .int x1)] [] h1 Q))))) : mx_SX mY_X12_sweepsOpen d 129 [(0, .ref x0), (1, .int x1)] [] h Q := by
  refine mx_iload_n (pc := 129) 1 (mx_dd dd_X12_sweepsOpen_1 34 (129, .iload_n 1, 1) rfl) rfl rfl ?_
  refine mx_sipush (pc := 130) (v := (4000 : Int32)) (mx_dd dd_X12_sweepsOpen_1 35 (130, .sipush 4000, 3) rfl) (by decide) ?_
  refine mx_icmp_ge (pc := 133) 158 (mx_dd dd_X12_sweepsOpen_1 36 (133, .if_icmp .ge 25, 3) rfl) rfl (fun c133 => ?_) (fun c133 => ?_)
  · have P := P.1 c133
    exact mx_return (pc := 158) (mx_dd dd_X12_sweepsOpen_2 9 (158, .return_, 1) rfl) rfl P
  · have P := P.2 c133
    refine mx_aload_n (pc := 136) 0 (mx_dd dd_X12_sweepsOpen_1 37 (136, .aload_n 0, 1) rfl) rfl rfl ?_
    obtain ⟨g1, P⟩ := P
    obtain ⟨b1, g2, P⟩ := P
    refine mx_getR (pc := 137) mx_fl_X12_368 g1 rfl g2 (mx_dd dd_X12_sweepsOpen_1 38 (137, .getfield 368, 3) rfl) ?_
    refine mx_iload_n (pc := 140) 1 (mx_dd dd_X12_sweepsOpen_1 39 (140, .iload_n 1, 1) rfl) rfl rfl ?_
    obtain ⟨g3, P⟩ := P
    obtain ⟨g4, P⟩ := P
    refine mx_zald (pc := 141) g3 g4 (mx_dd dd_X12_sweepsOpen_2 0 (141, .baload, 1) rfl) ?_
    refine mx_if_ne (pc := 142) 152 (mx_dd dd_X12_sweepsOpen_2 1 (142, .ifCond .ne 10, 3) rfl) rfl (fun c142 => ?_) (fun c142 => ?_)
    · have P := P.1 c142
      exact P
    · have P := P.2 c142
      refine mx_aload_n (pc := 145) 0 (mx_dd dd_X12_sweepsOpen_2 2 (145, .aload_n 0, 1) rfl) rfl rfl ?_
      obtain ⟨b2, g5, P⟩ := P
      refine mx_getR (pc := 146) mx_fl_X12_380 g1 rfl g5 (mx_dd dd_X12_sweepsOpen_2 3 (146, .getfield 380, 3) rfl) ?_
      refine mx_iload_n (pc := 149) 1 (mx_dd dd_X12_sweepsOpen_2 4 (149, .iload_n 1, 1) rfl) rfl rfl ?_
      refine mx_iconst (pc := 150) (v := (0 : Int32)) (mx_dd dd_X12_sweepsOpen_2 5 (150, .iconst 0, 1) rfl) (by decide) ?_
      obtain ⟨g6, P⟩ := P
      obtain ⟨g7, P⟩ := P
      refine mx_iast (pc := 151) g6 g7 (mx_dd dd_X12_sweepsOpen_2 6 (151, .iastore, 1) rfl) ?_
      have P := P _ rfl
      exact P
theorem b_X12_sweepsOpen_152 {d : Nat} {h : mxH} {Q : mxRes → mxH → Prop} (x0 : Nat) (x1 : Int32)
    (P : mx_SX mY_X12_sweepsOpen d 129 [(0, .ref x0), (1, .int (x1 + (1 : Int32)))] [] h Q) : mx_SX mY_X12_sweepsOpen d 152 [(0, .ref x0), (1, .int x1)] [] h Q := by
  refine mx_iinc (pc := 152) 1 (mx_dd dd_X12_sweepsOpen_2 7 (152, .iinc 1 1, 3) rfl) rfl (mx_kadd (by decide : Int32.ofInt 1 = (1 : Int32))) (by decide) (lv' := [(1, _), (0, _)]) rfl ?_
  refine mx_goto (pc := 155) 129 (mx_dd dd_X12_sweepsOpen_2 8 (155, .goto (-26), 3) rfl) rfl ?_
  refine mx_sel [1, 0] rfl ?_
  exact P
theorem b_X12_opened {d : Nat} {h : mxH} {Q : mxRes → mxH → Prop} (x0 : Nat) (x1 : Int32) (x2 : Int32)
    (P : mx_SX mY_X12_opened d 2 [(0, .ref x0), (1, .int x1), (2, .int x2), (3, .int (0 : Int32))] [] h Q) : mx_SM mY_X12_opened d [.ref x0, .int x1, .int x2] h Q := by
  refine mx_SM_of (by decide) (Nat.le_of_ble_eq_true rfl) ?_
  show mx_SX mY_X12_opened d 0 [(0, .ref x0), (1, .int x1), (2, .int x2)] [] h Q
  refine mx_iconst (pc := 0) (v := (0 : Int32)) (mx_dd dd_X12_opened 0 (0, .iconst 0, 1) rfl) (by decide) ?_
  refine mx_istore_n (pc := 1) (mx_dd dd_X12_opened 1 (1, .istore_n 3, 1) rfl) rfl (by decide) (lv' := [(3, _), (0, _), (1, _), (2, _)]) rfl ?_
  refine mx_sel [1, 2, 3, 0] rfl ?_
  exact P
theorem b_X12_opened_2 {d : Nat} {h : mxH} {Q : mxRes → mxH → Prop} (x0 : Nat) (x1 : Int32) (x2 : Int32) (x3 : Int32)
    (P : hpK h x0 = 12 ∧ ∃ b1 : Nat, hpR h x0 58 = some b1 ∧ hpK h b1 = 14 ∧ vp_in (hpI h x0 67) (hpZ h b1) ∧ (((hpI h b1 (hpI h x0 67).toNatClampNeg) = 0 → ∀ h1 : mxH, h1 = hsI h b1 (hpI h x0 67).toNatClampNeg x1 → ∃ b2 : Nat, hpR h1 x0 59 = some b2 ∧ hpK h1 b2 = 14 ∧ vp_in (hpI h1 x0 67) (hpZ h1 b2) ∧ ∀ h2 : mxH, h2 = hsI h1 b2 (hpI h1 x0 67).toNatClampNeg x2 → ∃ b3 : Nat, hpR h2 x0 60 = some b3 ∧ hpK h2 b3 = 14 ∧ vp_in (hpI h2 x0 67) (hpZ h2 b3) ∧ ∀ h3 : mxH, h3 = hsI h2 b3 (hpI h2 x0 67).toNatClampNeg (0 : Int32) → Q (.inl (some (.int (hpI h3 x0 67)))) h3) ∧ (¬ (hpI h b1 (hpI h x0 67).toNatClampNeg) = 0 → ∀ h4 : mxH, h4 = hsI h x0 67 (((hpI h x0 67) + (1 : Int32)) - ((hpI h x0 67) + (1 : Int32)) / (4000 : Int32) * (4000 : Int32)) → ((¬ (x3 + (1 : Int32)) = (4000 : Int32) → mx_SX mY_X12_opened d 2 [(0, .ref x0), (1, .int x1), (2, .int x2), (3, .int (x3 + (1 : Int32)))] [] h4 Q) ∧ ((x3 + (1 : Int32)) = (4000 : Int32) → 1 ≤ d ∧ mx_SM mY_X12_sweepsOpen (d - 1) [.ref x0] h4 (mx_KV (fun h5 => mx_SX mY_X12_opened d 2 [(0, .ref x0), (1, .int x1), (2, .int x2), (3, .int (x3 + (1 : Int32)))] [] h5 Q) (mx_XX mY_X12_opened Q))))))) : mx_SX mY_X12_opened d 2 [(0, .ref x0), (1, .int x1), (2, .int x2), (3, .int x3)] [] h Q := by
  refine mx_aload_n (pc := 2) 0 (mx_dd dd_X12_opened 2 (2, .aload_n 0, 1) rfl) rfl rfl ?_
  obtain ⟨g1, P⟩ := P
  obtain ⟨b1, g2, P⟩ := P
  refine mx_getR (pc := 3) mx_fl_X12_380 g1 rfl g2 (mx_dd dd_X12_opened 3 (3, .getfield 380, 3) rfl) ?_
  refine mx_aload_n (pc := 6) 0 (mx_dd dd_X12_opened 4 (6, .aload_n 0, 1) rfl) rfl rfl ?_
  refine mx_getI (pc := 7) mx_fl_X12_383 g1 rfl (mx_dd dd_X12_opened 5 (7, .getfield 383, 3) rfl) ?_
  obtain ⟨g3, P⟩ := P
  obtain ⟨g4, P⟩ := P
  refine mx_iald (pc := 10) g3 g4 (mx_dd dd_X12_opened 6 (10, .iaload, 1) rfl) ?_
  refine mx_if_eq (pc := 11) 45 (mx_dd dd_X12_opened 7 (11, .ifCond .eq 34, 3) rfl) rfl (fun c11 => ?_) (fun c11 => ?_)
  · have P := P.1 c11
    refine mx_aload_n (pc := 45) 0 (mx_dd dd_X12_opened 23 (45, .aload_n 0, 1) rfl) rfl rfl ?_
    refine mx_getR (pc := 46) mx_fl_X12_380 g1 rfl g2 (mx_dd dd_X12_opened 24 (46, .getfield 380, 3) rfl) ?_
    refine mx_aload_n (pc := 49) 0 (mx_dd dd_X12_opened 25 (49, .aload_n 0, 1) rfl) rfl rfl ?_
    refine mx_getI (pc := 50) mx_fl_X12_383 g1 rfl (mx_dd dd_X12_opened 26 (50, .getfield 383, 3) rfl) ?_
    refine mx_iload_n (pc := 53) 1 (mx_dd dd_X12_opened 27 (53, .iload_n 1, 1) rfl) rfl rfl ?_
    refine mx_iast (pc := 54) g3 g4 (mx_dd dd_X12_opened 28 (54, .iastore, 1) rfl) ?_
    have P := P _ rfl
    refine mx_aload_n (pc := 55) 0 (mx_dd dd_X12_opened 29 (55, .aload_n 0, 1) rfl) rfl rfl ?_
    obtain ⟨b2, g5, P⟩ := P
    refine mx_getR (pc := 56) mx_fl_X12_389 g1 rfl g5 (mx_dd dd_X12_opened 30 (56, .getfield 389, 3) rfl) ?_
    refine mx_aload_n (pc := 59) 0 (mx_dd dd_X12_opened 31 (59, .aload_n 0, 1) rfl) rfl rfl ?_
    refine mx_getI (pc := 60) mx_fl_X12_383 g1 rfl (mx_dd dd_X12_opened 32 (60, .getfield 383, 3) rfl) ?_
    refine mx_iload_n (pc := 63) 2 (mx_dd dd_X12_opened 33 (63, .iload_n 2, 1) rfl) rfl rfl ?_
    obtain ⟨g6, P⟩ := P
    obtain ⟨g7, P⟩ := P
    refine mx_iast (pc := 64) g6 g7 (mx_dd dd_X12_opened 34 (64, .iastore, 1) rfl) ?_
    have P := P _ rfl
    refine mx_aload_n (pc := 65) 0 (mx_dd dd_X12_opened 35 (65, .aload_n 0, 1) rfl) rfl rfl ?_
    obtain ⟨b3, g8, P⟩ := P
    refine mx_getR (pc := 66) mx_fl_X12_392 g1 rfl g8 (mx_dd dd_X12_opened 36 (66, .getfield 392, 3) rfl) ?_
    refine mx_aload_n (pc := 69) 0 (mx_dd dd_X12_opened 37 (69, .aload_n 0, 1) rfl) rfl rfl ?_
    refine mx_getI (pc := 70) mx_fl_X12_383 g1 rfl (mx_dd dd_X12_opened 38 (70, .getfield 383, 3) rfl) ?_
    refine mx_iconst (pc := 73) (v := (0 : Int32)) (mx_dd dd_X12_opened 39 (73, .iconst 0, 1) rfl) (by decide) ?_
    obtain ⟨g9, P⟩ := P
    obtain ⟨g10, P⟩ := P
    refine mx_iast (pc := 74) g9 g10 (mx_dd dd_X12_opened 40 (74, .iastore, 1) rfl) ?_
    have P := P _ rfl
    refine mx_aload_n (pc := 75) 0 (mx_dd dd_X12_opened 41 (75, .aload_n 0, 1) rfl) rfl rfl ?_
    refine mx_getI (pc := 76) mx_fl_X12_383 g1 rfl (mx_dd dd_X12_opened 42 (76, .getfield 383, 3) rfl) ?_
    exact mx_ireturn (pc := 79) (mx_dd dd_X12_opened 43 (79, .ireturn, 1) rfl) rfl rfl P
  · have P := P.2 c11
    refine mx_aload_n (pc := 14) 0 (mx_dd dd_X12_opened 8 (14, .aload_n 0, 1) rfl) rfl rfl ?_
    refine mx_aload_n (pc := 15) 0 (mx_dd dd_X12_opened 9 (15, .aload_n 0, 1) rfl) rfl rfl ?_
    refine mx_getI (pc := 16) mx_fl_X12_383 g1 rfl (mx_dd dd_X12_opened 10 (16, .getfield 383, 3) rfl) ?_
    refine mx_iconst (pc := 19) (v := (1 : Int32)) (mx_dd dd_X12_opened 11 (19, .iconst 1, 1) rfl) (by decide) ?_
    refine mx_iadd (pc := 20) (mx_dd dd_X12_opened 12 (20, .iadd, 1) rfl) ?_
    refine mx_sipush (pc := 21) (v := (4000 : Int32)) (mx_dd dd_X12_opened 13 (21, .sipush 4000, 3) rfl) (by decide) ?_
    refine mx_irem (pc := 24) (mx_dd dd_X12_opened 14 (24, .irem, 1) rfl) (by decide) ?_
    refine mx_putI (pc := 25) mx_fl_X12_383 g1 rfl (.inl rfl) rfl rfl (mx_dd dd_X12_opened 15 (25, .putfield 383, 3) rfl) ?_
    have P := P _ rfl
    refine mx_iinc (pc := 28) 3 (mx_dd dd_X12_opened 16 (28, .iinc 3 1, 3) rfl) rfl (mx_kadd (by decide : Int32.ofInt 1 = (1 : Int32))) (by decide) (lv' := [(3, _), (0, _), (1, _), (2, _)]) rfl ?_
    refine mx_iload_n (pc := 31) 0 (mx_dd dd_X12_opened 17 (31, .iload_n 3, 1) rfl) rfl rfl ?_
    refine mx_sipush (pc := 32) (v := (4000 : Int32)) (mx_dd dd_X12_opened 18 (32, .sipush 4000, 3) rfl) (by decide) ?_
    refine mx_icmp_ne (pc := 35) 2 (mx_dd dd_X12_opened 19 (35, .if_icmp .ne (-33), 3) rfl) rfl (fun c35 => ?_) (fun c35 => ?_)
    · have P := P.1 c35
      refine mx_sel [1, 2, 3, 0] rfl ?_
      exact P
    · have P := P.2 c35
      refine mx_aload_n (pc := 38) 1 (mx_dd dd_X12_opened 20 (38, .aload_n 0, 1) rfl) rfl rfl ?_
      obtain ⟨g11, P⟩ := P
      refine mx_cVV (pc := 39) (Y := mY_X12_sweepsOpen) (As := []) mx_ml_X12_386 mx_y_X12_sweepsOpen rfl g1 (by decide) rfl (by decide) rfl (mx_dd dd_X12_opened 21 (39, .invokevirtual 386, 3) rfl) g11 (by decide) P (fun h5 P => ?_)
      refine mx_goto (pc := 42) 2 (mx_dd dd_X12_opened 22 (42, .goto (-40), 3) rfl) rfl ?_
      refine mx_sel [1, 2, 3, 0] rfl ?_
      exact P
theorem b_X12_pipe {d : Nat} {h : mxH} {Q : mxRes → mxH → Prop} (x0 : Nat)
    (P : mx_SX mY_X12_pipe d 2 [(0, .ref x0), (1, .int (0 : Int32))] [] h Q) : mx_SM mY_X12_pipe d [.ref x0] h Q := by
  refine mx_SM_of (by decide) (Nat.le_of_ble_eq_true rfl) ?_
  show mx_SX mY_X12_pipe d 0 [(0, .ref x0)] [] h Q
  refine mx_iconst (pc := 0) (v := (0 : Int32)) (mx_dd dd_X12_pipe 0 (0, .iconst 0, 1) rfl) (by decide) ?_
  refine mx_istore_n (pc := 1) (mx_dd dd_X12_pipe 1 (1, .istore_n 1, 1) rfl) rfl (by decide) (lv' := [(1, _), (0, _)]) rfl ?_
  refine mx_sel [1, 0] rfl ?_
  exact P
theorem b_X12_pipe_2 {d : Nat} {h : mxH} {Q : mxRes → mxH → Prop} (x0 : Nat) (x1 : Int32)
    (P : hpK h x0 = 12 ∧ ∃ b1 : Nat, hpR h x0 63 = some b1 ∧ hpK h b1 = 16 ∧ vp_in x1 (hpZ h b1) ∧ (((hpI h b1 x1.toNatClampNeg) = 0 → ∀ h1 : mxH, h1 = hsI h b1 x1.toNatClampNeg ((1 : Int32) &&& 1) → ∃ b2 : Nat, hpR h1 x0 61 = some b2 ∧ hpK h1 b2 = 14 ∧ vp_in x1 (hpZ h1 b2) ∧ ∀ h2 : mxH, h2 = hsI h1 b2 x1.toNatClampNeg (-1 : Int32) → ∃ b3 : Nat, hpR h2 x0 62 = some b3 ∧ hpK h2 b3 = 14 ∧ vp_in x1 (hpZ h2 b3) ∧ ∀ h3 : mxH, h3 = hsI h2 b3 x1.toNatClampNeg (-1 : Int32) → Q (.inl (some (.int x1))) h3) ∧ (¬ (hpI h b1 x1.toNatClampNeg) = 0 → mx_SX mY_X12_pipe d 2 [(0, .ref x0), (1, .int (x1 + (1 : Int32)))] [] h Q))) : mx_SX mY_X12_pipe d 2 [(0, .ref x0), (1, .int x1)] [] h Q := by
  refine mx_aload_n (pc := 2) 0 (mx_dd dd_X12_pipe 2 (2, .aload_n 0, 1) rfl) rfl rfl ?_
  obtain ⟨g1, P⟩ := P
  obtain ⟨b1, g2, P⟩ := P
  refine mx_getR (pc := 3) mx_fl_X12_395 g1 rfl g2 (mx_dd dd_X12_pipe 3 (3, .getfield 395, 3) rfl) ?_
  refine mx_iload_n (pc := 6) 1 (mx_dd dd_X12_pipe 4 (6, .iload_n 1, 1) rfl) rfl rfl ?_
  obtain ⟨g3, P⟩ := P
  obtain ⟨g4, P⟩ := P
  refine mx_zald (pc := 7) g3 g4 (mx_dd dd_X12_pipe 5 (7, .baload, 1) rfl) ?_
  refine mx_if_eq (pc := 8) 17 (mx_dd dd_X12_pipe 6 (8, .ifCond .eq 9, 3) rfl) rfl (fun c8 => ?_) (fun c8 => ?_)
  · have P := P.1 c8
    refine mx_aload_n (pc := 17) 0 (mx_dd dd_X12_pipe 9 (17, .aload_n 0, 1) rfl) rfl rfl ?_
    refine mx_getR (pc := 18) mx_fl_X12_395 g1 rfl g2 (mx_dd dd_X12_pipe 10 (18, .getfield 395, 3) rfl) ?_
    refine mx_iload_n (pc := 21) 1 (mx_dd dd_X12_pipe 11 (21, .iload_n 1, 1) rfl) rfl rfl ?_
    refine mx_iconst (pc := 22) (v := (1 : Int32)) (mx_dd dd_X12_pipe 12 (22, .iconst 1, 1) rfl) (by decide) ?_
    refine mx_zast (pc := 23) g3 g4 (mx_dd dd_X12_pipe 13 (23, .bastore, 1) rfl) ?_
    have P := P _ rfl
    refine mx_aload_n (pc := 24) 0 (mx_dd dd_X12_pipe 14 (24, .aload_n 0, 1) rfl) rfl rfl ?_
    obtain ⟨b2, g5, P⟩ := P
    refine mx_getR (pc := 25) mx_fl_X12_325 g1 rfl g5 (mx_dd dd_X12_pipe 15 (25, .getfield 325, 3) rfl) ?_
    refine mx_iload_n (pc := 28) 1 (mx_dd dd_X12_pipe 16 (28, .iload_n 1, 1) rfl) rfl rfl ?_
    refine mx_iconst (pc := 29) (v := (-1 : Int32)) (mx_dd dd_X12_pipe 17 (29, .iconst (-1), 1) rfl) (by decide) ?_
    obtain ⟨g6, P⟩ := P
    obtain ⟨g7, P⟩ := P
    refine mx_iast (pc := 30) g6 g7 (mx_dd dd_X12_pipe 18 (30, .iastore, 1) rfl) ?_
    have P := P _ rfl
    refine mx_aload_n (pc := 31) 0 (mx_dd dd_X12_pipe 19 (31, .aload_n 0, 1) rfl) rfl rfl ?_
    obtain ⟨b3, g8, P⟩ := P
    refine mx_getR (pc := 32) mx_fl_X12_398 g1 rfl g8 (mx_dd dd_X12_pipe 20 (32, .getfield 398, 3) rfl) ?_
    refine mx_iload_n (pc := 35) 1 (mx_dd dd_X12_pipe 21 (35, .iload_n 1, 1) rfl) rfl rfl ?_
    refine mx_iconst (pc := 36) (v := (-1 : Int32)) (mx_dd dd_X12_pipe 22 (36, .iconst (-1), 1) rfl) (by decide) ?_
    obtain ⟨g9, P⟩ := P
    obtain ⟨g10, P⟩ := P
    refine mx_iast (pc := 37) g9 g10 (mx_dd dd_X12_pipe 23 (37, .iastore, 1) rfl) ?_
    have P := P _ rfl
    refine mx_iload_n (pc := 38) 1 (mx_dd dd_X12_pipe 24 (38, .iload_n 1, 1) rfl) rfl rfl ?_
    exact mx_ireturn (pc := 39) (mx_dd dd_X12_pipe 25 (39, .ireturn, 1) rfl) rfl rfl P
  · have P := P.2 c8
    refine mx_iinc (pc := 11) 1 (mx_dd dd_X12_pipe 7 (11, .iinc 1 1, 3) rfl) rfl (mx_kadd (by decide : Int32.ofInt 1 = (1 : Int32))) (by decide) (lv' := [(1, _), (0, _)]) rfl ?_
    refine mx_goto (pc := 14) 2 (mx_dd dd_X12_pipe 8 (14, .goto (-12), 3) rfl) rfl ?_
    refine mx_sel [1, 0] rfl ?_
    exact P
theorem b_X12_takesFirst {d : Nat} {h : mxH} {Q : mxRes → mxH → Prop} (x0 : Nat) (x1 : Int32)
    (P : hpK h x0 = 12 ∧ ∃ b1 : Nat, hpR h x0 61 = some b1 ∧ hpK h b1 = 14 ∧ vp_in x1 (hpZ h b1) ∧ ∃ b2 : Nat, hpR h x0 65 = some b2 ∧ hpK h b2 = 14 ∧ vp_in (hpI h b1 x1.toNatClampNeg) (hpZ h b2) ∧ ∀ h1 : mxH, h1 = hsI h b1 x1.toNatClampNeg (hpI h b2 (hpI h b1 x1.toNatClampNeg).toNatClampNeg) → ∃ b3 : Nat, hpR h1 x0 61 = some b3 ∧ hpK h1 b3 = 14 ∧ vp_in x1 (hpZ h1 b3) ∧ ((¬ (hpI h1 b3 x1.toNatClampNeg) = (-1 : Int32) → mx_SX mY_X12_takesFirst d 36 [(0, .ref x0), (2, .int (hpI h b1 x1.toNatClampNeg))] [] h1 Q) ∧ ((hpI h1 b3 x1.toNatClampNeg) = (-1 : Int32) → ∃ b4 : Nat, hpR h1 x0 62 = some b4 ∧ hpK h1 b4 = 14 ∧ vp_in x1 (hpZ h1 b4) ∧ ∀ h2 : mxH, h2 = hsI h1 b4 x1.toNatClampNeg (-1 : Int32) → mx_SX mY_X12_takesFirst d 36 [(0, .ref x0), (2, .int (hpI h b1 x1.toNatClampNeg))] [] h2 Q))) : mx_SM mY_X12_takesFirst d [.ref x0, .int x1] h Q := by
  refine mx_SM_of (by decide) (Nat.le_of_ble_eq_true rfl) ?_
  show mx_SX mY_X12_takesFirst d 0 [(0, .ref x0), (1, .int x1)] [] h Q
  refine mx_aload_n (pc := 0) 0 (mx_dd dd_X12_takesFirst 0 (0, .aload_n 0, 1) rfl) rfl rfl ?_
  obtain ⟨g1, P⟩ := P
  obtain ⟨b1, g2, P⟩ := P
  refine mx_getR (pc := 1) mx_fl_X12_325 g1 rfl g2 (mx_dd dd_X12_takesFirst 1 (1, .getfield 325, 3) rfl) ?_
  refine mx_iload_n (pc := 4) 1 (mx_dd dd_X12_takesFirst 2 (4, .iload_n 1, 1) rfl) rfl rfl ?_
  obtain ⟨g3, P⟩ := P
  obtain ⟨g4, P⟩ := P
  refine mx_iald (pc := 5) g3 g4 (mx_dd dd_X12_takesFirst 3 (5, .iaload, 1) rfl) ?_
  refine mx_istore_n (pc := 6) (mx_dd dd_X12_takesFirst 4 (6, .istore_n 2, 1) rfl) rfl (by decide) (lv' := [(2, _), (0, _), (1, _)]) rfl ?_
  refine mx_aload_n (pc := 7) 1 (mx_dd dd_X12_takesFirst 5 (7, .aload_n 0, 1) rfl) rfl rfl ?_
  refine mx_getR (pc := 8) mx_fl_X12_325 g1 rfl g2 (mx_dd dd_X12_takesFirst 6 (8, .getfield 325, 3) rfl) ?_
  refine mx_iload_n (pc := 11) 2 (mx_dd dd_X12_takesFirst 7 (11, .iload_n 1, 1) rfl) rfl rfl ?_
  refine mx_aload_n (pc := 12) 1 (mx_dd dd_X12_takesFirst 8 (12, .aload_n 0, 1) rfl) rfl rfl ?_
  obtain ⟨b2, g5, P⟩ := P
  refine mx_getR (pc := 13) mx_fl_X12_334 g1 rfl g5 (mx_dd dd_X12_takesFirst 9 (13, .getfield 334, 3) rfl) ?_
  refine mx_iload_n (pc := 16) 0 (mx_dd dd_X12_takesFirst 10 (16, .iload_n 2, 1) rfl) rfl rfl ?_
  obtain ⟨g6, P⟩ := P
  obtain ⟨g7, P⟩ := P
  refine mx_iald (pc := 17) g6 g7 (mx_dd dd_X12_takesFirst 11 (17, .iaload, 1) rfl) ?_
  refine mx_iast (pc := 18) g3 g4 (mx_dd dd_X12_takesFirst 12 (18, .iastore, 1) rfl) ?_
  have P := P _ rfl
  refine mx_aload_n (pc := 19) 1 (mx_dd dd_X12_takesFirst 13 (19, .aload_n 0, 1) rfl) rfl rfl ?_
  obtain ⟨b3, g8, P⟩ := P
  refine mx_getR (pc := 20) mx_fl_X12_325 g1 rfl g8 (mx_dd dd_X12_takesFirst 14 (20, .getfield 325, 3) rfl) ?_
  refine mx_iload_n (pc := 23) 2 (mx_dd dd_X12_takesFirst 15 (23, .iload_n 1, 1) rfl) rfl rfl ?_
  obtain ⟨g9, P⟩ := P
  obtain ⟨g10, P⟩ := P
  refine mx_iald (pc := 24) g9 g10 (mx_dd dd_X12_takesFirst 16 (24, .iaload, 1) rfl) ?_
  refine mx_iconst (pc := 25) (v := (-1 : Int32)) (mx_dd dd_X12_takesFirst 17 (25, .iconst (-1), 1) rfl) (by decide) ?_
  refine mx_icmp_ne (pc := 26) 36 (mx_dd dd_X12_takesFirst 18 (26, .if_icmp .ne 10, 3) rfl) rfl (fun c26 => ?_) (fun c26 => ?_)
  · have P := P.1 c26
    refine mx_sel [1, 0] rfl ?_
    exact P
  · have P := P.2 c26
    refine mx_aload_n (pc := 29) 1 (mx_dd dd_X12_takesFirst 19 (29, .aload_n 0, 1) rfl) rfl rfl ?_
    obtain ⟨b4, g11, P⟩ := P
    refine mx_getR (pc := 30) mx_fl_X12_398 g1 rfl g11 (mx_dd dd_X12_takesFirst 20 (30, .getfield 398, 3) rfl) ?_
    refine mx_iload_n (pc := 33) 2 (mx_dd dd_X12_takesFirst 21 (33, .iload_n 1, 1) rfl) rfl rfl ?_
    refine mx_iconst (pc := 34) (v := (-1 : Int32)) (mx_dd dd_X12_takesFirst 22 (34, .iconst (-1), 1) rfl) (by decide) ?_
    obtain ⟨g12, P⟩ := P
    obtain ⟨g13, P⟩ := P
    refine mx_iast (pc := 35) g12 g13 (mx_dd dd_X12_takesFirst 23 (35, .iastore, 1) rfl) ?_
    have P := P _ rfl
    refine mx_sel [1, 0] rfl ?_
    exact P
theorem b_X12_takesFirst_36 {d : Nat} {h : mxH} {Q : mxRes → mxH → Prop} (x0 : Nat) (x2 : Int32)
    (P : hpK h x0 = 12 ∧ ∃ b1 : Nat, hpR h x0 65 = some b1 ∧ hpK h b1 = 14 ∧ vp_in x2 (hpZ h b1) ∧ ∀ h1 : mxH, h1 = hsI h b1 x2.toNatClampNeg (hpI h x0 66) → ∀ h2 : mxH, h2 = hsI h1 x0 66 x2 → ∃ b2 : Nat, hpR h2 x0 64 = some b2 ∧ hpK h2 b2 = 14 ∧ vp_in x2 (hpZ h2 b2) ∧ Q (.inl (some (.int (hpI h2 b2 x2.toNatClampNeg)))) h2) : mx_SX mY_X12_takesFirst d 36 [(0, .ref x0), (2, .int x2)] [] h Q := by
  refine mx_aload_n (pc := 36) 0 (mx_dd dd_X12_takesFirst 24 (36, .aload_n 0, 1) rfl) rfl rfl ?_
  obtain ⟨g1, P⟩ := P
  obtain ⟨b1, g2, P⟩ := P
  refine mx_getR (pc := 37) mx_fl_X12_334 g1 rfl g2 (mx_dd dd_X12_takesFirst 25 (37, .getfield 334, 3) rfl) ?_
  refine mx_iload_n (pc := 40) 1 (mx_dd dd_X12_takesFirst 26 (40, .iload_n 2, 1) rfl) rfl rfl ?_
  refine mx_aload_n (pc := 41) 0 (mx_dd dd_X12_takesFirst 27 (41, .aload_n 0, 1) rfl) rfl rfl ?_
  refine mx_getI (pc := 42) mx_fl_X12_401 g1 rfl (mx_dd dd_X12_takesFirst 28 (42, .getfield 401, 3) rfl) ?_
  obtain ⟨g3, P⟩ := P
  obtain ⟨g4, P⟩ := P
  refine mx_iast (pc := 45) g3 g4 (mx_dd dd_X12_takesFirst 29 (45, .iastore, 1) rfl) ?_
  have P := P _ rfl
  refine mx_aload_n (pc := 46) 0 (mx_dd dd_X12_takesFirst 30 (46, .aload_n 0, 1) rfl) rfl rfl ?_
  refine mx_iload_n (pc := 47) 1 (mx_dd dd_X12_takesFirst 31 (47, .iload_n 2, 1) rfl) rfl rfl ?_
  refine mx_putI (pc := 48) mx_fl_X12_401 g1 rfl (.inl rfl) rfl rfl (mx_dd dd_X12_takesFirst 32 (48, .putfield 401, 3) rfl) ?_
  have P := P _ rfl
  refine mx_aload_n (pc := 51) 0 (mx_dd dd_X12_takesFirst 33 (51, .aload_n 0, 1) rfl) rfl rfl ?_
  obtain ⟨b2, g5, P⟩ := P
  refine mx_getR (pc := 52) mx_fl_X12_328 g1 rfl g5 (mx_dd dd_X12_takesFirst 34 (52, .getfield 328, 3) rfl) ?_
  refine mx_iload_n (pc := 55) 1 (mx_dd dd_X12_takesFirst 35 (55, .iload_n 2, 1) rfl) rfl rfl ?_
  obtain ⟨g6, P⟩ := P
  obtain ⟨g7, P⟩ := P
  refine mx_iald (pc := 56) g6 g7 (mx_dd dd_X12_takesFirst 36 (56, .iaload, 1) rfl) ?_
  exact mx_ireturn (pc := 57) (mx_dd dd_X12_takesFirst 37 (57, .ireturn, 1) rfl) rfl rfl P
theorem b_X12_closesPipe {d : Nat} {h : mxH} {Q : mxRes → mxH → Prop} (x0 : Nat) (x1 : Int32)
    (P : hpK h x0 = 12 ∧ ∃ b1 : Nat, hpR h x0 61 = some b1 ∧ hpK h b1 = 14 ∧ vp_in x1 (hpZ h b1) ∧ (((hpI h b1 x1.toNatClampNeg) = (-1 : Int32) → ∃ b2 : Nat, hpR h x0 63 = some b2 ∧ hpK h b2 = 16 ∧ vp_in x1 (hpZ h b2) ∧ ∀ h1 : mxH, h1 = hsI h b2 x1.toNatClampNeg ((0 : Int32) &&& 1) → Q (.inl none) h1) ∧ (¬ (hpI h b1 x1.toNatClampNeg) = (-1 : Int32) → 1 ≤ d ∧ mx_SM mY_X12_takesFirst (d - 1) [.ref x0, .int x1] h (mx_KI (fun v1 h2 => mx_SX mY_X12_closesPipe d 0 [(0, .ref x0), (1, .int x1)] [] h2 Q) (mx_XX mY_X12_closesPipe Q))))) : mx_SM mY_X12_closesPipe d [.ref x0, .int x1] h Q := by
  refine mx_SM_of (by decide) (Nat.le_of_ble_eq_true rfl) ?_
  show mx_SX mY_X12_closesPipe d 0 [(0, .ref x0), (1, .int x1)] [] h Q
  refine mx_aload_n (pc := 0) 0 (mx_dd dd_X12_closesPipe 0 (0, .aload_n 0, 1) rfl) rfl rfl ?_
  obtain ⟨g1, P⟩ := P
  obtain ⟨b1, g2, P⟩ := P
  refine mx_getR (pc := 1) mx_fl_X12_325 g1 rfl g2 (mx_dd dd_X12_closesPipe 1 (1, .getfield 325, 3) rfl) ?_
  refine mx_iload_n (pc := 4) 1 (mx_dd dd_X12_closesPipe 2 (4, .iload_n 1, 1) rfl) rfl rfl ?_
  obtain ⟨g3, P⟩ := P
  obtain ⟨g4, P⟩ := P
  refine mx_iald (pc := 5) g3 g4 (mx_dd dd_X12_closesPipe 3 (5, .iaload, 1) rfl) ?_
  refine mx_iconst (pc := 6) (v := (-1 : Int32)) (mx_dd dd_X12_closesPipe 4 (6, .iconst (-1), 1) rfl) (by decide) ?_
  refine mx_icmp_eq (pc := 7) 19 (mx_dd dd_X12_closesPipe 5 (7, .if_icmp .eq 12, 3) rfl) rfl (fun c7 => ?_) (fun c7 => ?_)
  · have P := P.1 c7
    refine mx_aload_n (pc := 19) 0 (mx_dd dd_X12_closesPipe 11 (19, .aload_n 0, 1) rfl) rfl rfl ?_
    obtain ⟨b2, g5, P⟩ := P
    refine mx_getR (pc := 20) mx_fl_X12_395 g1 rfl g5 (mx_dd dd_X12_closesPipe 12 (20, .getfield 395, 3) rfl) ?_
    refine mx_iload_n (pc := 23) 1 (mx_dd dd_X12_closesPipe 13 (23, .iload_n 1, 1) rfl) rfl rfl ?_
    refine mx_iconst (pc := 24) (v := (0 : Int32)) (mx_dd dd_X12_closesPipe 14 (24, .iconst 0, 1) rfl) (by decide) ?_
    obtain ⟨g6, P⟩ := P
    obtain ⟨g7, P⟩ := P
    refine mx_zast (pc := 25) g6 g7 (mx_dd dd_X12_closesPipe 15 (25, .bastore, 1) rfl) ?_
    have P := P _ rfl
    exact mx_return (pc := 26) (mx_dd dd_X12_closesPipe 16 (26, .return_, 1) rfl) rfl P
  · have P := P.2 c7
    refine mx_aload_n (pc := 10) 0 (mx_dd dd_X12_closesPipe 6 (10, .aload_n 0, 1) rfl) rfl rfl ?_
    refine mx_iload_n (pc := 11) 1 (mx_dd dd_X12_closesPipe 7 (11, .iload_n 1, 1) rfl) rfl rfl ?_
    obtain ⟨g8, P⟩ := P
    refine mx_cVI (pc := 12) (Y := mY_X12_takesFirst) (As := [.int _]) mx_ml_X12_404 mx_y_X12_takesFirst rfl g1 (by decide) rfl (by decide) rfl (mx_dd dd_X12_closesPipe 8 (12, .invokevirtual 404, 3) rfl) g8 (by decide) P (fun v1 h2 P => ?_)
    refine mx_istore_n (pc := 15) (mx_dd dd_X12_closesPipe 9 (15, .istore_n 2, 1) rfl) rfl (by decide) (lv' := [(2, _), (0, _), (1, _)]) rfl ?_
    refine mx_goto (pc := 16) 0 (mx_dd dd_X12_closesPipe 10 (16, .goto (-16), 3) rfl) rfl ?_
    refine mx_sel [1, 2] rfl ?_
    exact P
theorem b_X12_addsTo {d : Nat} {h : mxH} {Q : mxRes → mxH → Prop} (x0 : Nat) (x1 : Int32) (x2 : Int32)
    (P : hpK h x0 = 12 ∧ ∃ b1 : Nat, hpR h x0 65 = some b1 ∧ hpK h b1 = 14 ∧ vp_in (hpI h x0 66) (hpZ h b1) ∧ ∀ h1 : mxH, h1 = hsI h x0 66 (hpI h b1 (hpI h x0 66).toNatClampNeg) → ∃ b2 : Nat, hpR h1 x0 64 = some b2 ∧ hpK h1 b2 = 14 ∧ vp_in (hpI h x0 66) (hpZ h1 b2) ∧ ∀ h2 : mxH, h2 = hsI h1 b2 (hpI h x0 66).toNatClampNeg x2 → ∃ b3 : Nat, hpR h2 x0 65 = some b3 ∧ hpK h2 b3 = 14 ∧ vp_in (hpI h x0 66) (hpZ h2 b3) ∧ ∀ h3 : mxH, h3 = hsI h2 b3 (hpI h x0 66).toNatClampNeg (-1 : Int32) → ∃ b4 : Nat, hpR h3 x0 62 = some b4 ∧ hpK h3 b4 = 14 ∧ vp_in x1 (hpZ h3 b4) ∧ ((¬ (hpI h3 b4 x1.toNatClampNeg) = (-1 : Int32) → ∃ b5 : Nat, hpR h3 x0 65 = some b5 ∧ hpK h3 b5 = 14 ∧ vp_in (hpI h3 b4 x1.toNatClampNeg) (hpZ h3 b5) ∧ ∀ h4 : mxH, h4 = hsI h3 b5 (hpI h3 b4 x1.toNatClampNeg).toNatClampNeg (hpI h x0 66) → ∃ b6 : Nat, hpR h4 x0 62 = some b6 ∧ hpK h4 b6 = 14 ∧ vp_in x1 (hpZ h4 b6) ∧ ∀ h5 : mxH, h5 = hsI h4 b6 x1.toNatClampNeg (hpI h x0 66) → Q (.inl none) h5) ∧ ((hpI h3 b4 x1.toNatClampNeg) = (-1 : Int32) → ∃ b7 : Nat, hpR h3 x0 61 = some b7 ∧ hpK h3 b7 = 14 ∧ vp_in x1 (hpZ h3 b7) ∧ ∀ h6 : mxH, h6 = hsI h3 b7 x1.toNatClampNeg (hpI h x0 66) → ∃ b8 : Nat, hpR h6 x0 62 = some b8 ∧ hpK h6 b8 = 14 ∧ vp_in x1 (hpZ h6 b8) ∧ ∀ h7 : mxH, h7 = hsI h6 b8 x1.toNatClampNeg (hpI h x0 66) → Q (.inl none) h7))) : mx_SM mY_X12_addsTo d [.ref x0, .int x1, .int x2] h Q := by
  refine mx_SM_of (by decide) (Nat.le_of_ble_eq_true rfl) ?_
  show mx_SX mY_X12_addsTo d 0 [(0, .ref x0), (1, .int x1), (2, .int x2)] [] h Q
  refine mx_aload_n (pc := 0) 0 (mx_dd dd_X12_addsTo 0 (0, .aload_n 0, 1) rfl) rfl rfl ?_
  obtain ⟨g1, P⟩ := P
  refine mx_getI (pc := 1) mx_fl_X12_401 g1 rfl (mx_dd dd_X12_addsTo 1 (1, .getfield 401, 3) rfl) ?_
  refine mx_istore_n (pc := 4) (mx_dd dd_X12_addsTo 2 (4, .istore_n 3, 1) rfl) rfl (by decide) (lv' := [(3, _), (0, _), (1, _), (2, _)]) rfl ?_
  refine mx_aload_n (pc := 5) 1 (mx_dd dd_X12_addsTo 3 (5, .aload_n 0, 1) rfl) rfl rfl ?_
  refine mx_aload_n (pc := 6) 1 (mx_dd dd_X12_addsTo 4 (6, .aload_n 0, 1) rfl) rfl rfl ?_
  obtain ⟨b1, g2, P⟩ := P
  refine mx_getR (pc := 7) mx_fl_X12_334 g1 rfl g2 (mx_dd dd_X12_addsTo 5 (7, .getfield 334, 3) rfl) ?_
  refine mx_iload_n (pc := 10) 0 (mx_dd dd_X12_addsTo 6 (10, .iload_n 3, 1) rfl) rfl rfl ?_
  obtain ⟨g3, P⟩ := P
  obtain ⟨g4, P⟩ := P
  refine mx_iald (pc := 11) g3 g4 (mx_dd dd_X12_addsTo 7 (11, .iaload, 1) rfl) ?_
  refine mx_putI (pc := 12) mx_fl_X12_401 g1 rfl (.inl rfl) rfl rfl (mx_dd dd_X12_addsTo 8 (12, .putfield 401, 3) rfl) ?_
  have P := P _ rfl
  refine mx_aload_n (pc := 15) 1 (mx_dd dd_X12_addsTo 9 (15, .aload_n 0, 1) rfl) rfl rfl ?_
  obtain ⟨b2, g5, P⟩ := P
  refine mx_getR (pc := 16) mx_fl_X12_328 g1 rfl g5 (mx_dd dd_X12_addsTo 10 (16, .getfield 328, 3) rfl) ?_
  refine mx_iload_n (pc := 19) 0 (mx_dd dd_X12_addsTo 11 (19, .iload_n 3, 1) rfl) rfl rfl ?_
  refine mx_iload_n (pc := 20) 3 (mx_dd dd_X12_addsTo 12 (20, .iload_n 2, 1) rfl) rfl rfl ?_
  obtain ⟨g6, P⟩ := P
  obtain ⟨g7, P⟩ := P
  refine mx_iast (pc := 21) g6 g7 (mx_dd dd_X12_addsTo 13 (21, .iastore, 1) rfl) ?_
  have P := P _ rfl
  refine mx_aload_n (pc := 22) 1 (mx_dd dd_X12_addsTo 14 (22, .aload_n 0, 1) rfl) rfl rfl ?_
  obtain ⟨b3, g8, P⟩ := P
  refine mx_getR (pc := 23) mx_fl_X12_334 g1 rfl g8 (mx_dd dd_X12_addsTo 15 (23, .getfield 334, 3) rfl) ?_
  refine mx_iload_n (pc := 26) 0 (mx_dd dd_X12_addsTo 16 (26, .iload_n 3, 1) rfl) rfl rfl ?_
  refine mx_iconst (pc := 27) (v := (-1 : Int32)) (mx_dd dd_X12_addsTo 17 (27, .iconst (-1), 1) rfl) (by decide) ?_
  obtain ⟨g9, P⟩ := P
  obtain ⟨g10, P⟩ := P
  refine mx_iast (pc := 28) g9 g10 (mx_dd dd_X12_addsTo 18 (28, .iastore, 1) rfl) ?_
  have P := P _ rfl
  refine mx_aload_n (pc := 29) 1 (mx_dd dd_X12_addsTo 19 (29, .aload_n 0, 1) rfl) rfl rfl ?_
  obtain ⟨b4, g11, P⟩ := P
  refine mx_getR (pc := 30) mx_fl_X12_398 g1 rfl g11 (mx_dd dd_X12_addsTo 20 (30, .getfield 398, 3) rfl) ?_
  refine mx_iload_n (pc := 33) 2 (mx_dd dd_X12_addsTo 21 (33, .iload_n 1, 1) rfl) rfl rfl ?_
  obtain ⟨g12, P⟩ := P
  obtain ⟨g13, P⟩ := P
  refine mx_iald (pc := 34) g12 g13 (mx_dd dd_X12_addsTo 22 (34, .iaload, 1) rfl) ?_
  refine mx_iconst (pc := 35) (v := (-1 : Int32)) (mx_dd dd_X12_addsTo 23 (35, .iconst (-1), 1) rfl) (by decide) ?_
  refine mx_icmp_ne (pc := 36) 49 (mx_dd dd_X12_addsTo 24 (36, .if_icmp .ne 13, 3) rfl) rfl (fun c36 => ?_) (fun c36 => ?_)
  · have P := P.1 c36
    refine mx_aload_n (pc := 49) 1 (mx_dd dd_X12_addsTo 31 (49, .aload_n 0, 1) rfl) rfl rfl ?_
    obtain ⟨b5, g14, P⟩ := P
    refine mx_getR (pc := 50) mx_fl_X12_334 g1 rfl g14 (mx_dd dd_X12_addsTo 32 (50, .getfield 334, 3) rfl) ?_
    refine mx_aload_n (pc := 53) 1 (mx_dd dd_X12_addsTo 33 (53, .aload_n 0, 1) rfl) rfl rfl ?_
    refine mx_getR (pc := 54) mx_fl_X12_398 g1 rfl g11 (mx_dd dd_X12_addsTo 34 (54, .getfield 398, 3) rfl) ?_
    refine mx_iload_n (pc := 57) 2 (mx_dd dd_X12_addsTo 35 (57, .iload_n 1, 1) rfl) rfl rfl ?_
    refine mx_iald (pc := 58) g12 g13 (mx_dd dd_X12_addsTo 36 (58, .iaload, 1) rfl) ?_
    refine mx_iload_n (pc := 59) 0 (mx_dd dd_X12_addsTo 37 (59, .iload_n 3, 1) rfl) rfl rfl ?_
    obtain ⟨g15, P⟩ := P
    obtain ⟨g16, P⟩ := P
    refine mx_iast (pc := 60) g15 g16 (mx_dd dd_X12_addsTo 38 (60, .iastore, 1) rfl) ?_
    have P := P _ rfl
    refine mx_aload_n (pc := 61) 1 (mx_dd dd_X12_addsTo 39 (61, .aload_n 0, 1) rfl) rfl rfl ?_
    obtain ⟨b6, g17, P⟩ := P
    refine mx_getR (pc := 62) mx_fl_X12_398 g1 rfl g17 (mx_dd dd_X12_addsTo 40 (62, .getfield 398, 3) rfl) ?_
    refine mx_iload_n (pc := 65) 2 (mx_dd dd_X12_addsTo 41 (65, .iload_n 1, 1) rfl) rfl rfl ?_
    refine mx_iload_n (pc := 66) 0 (mx_dd dd_X12_addsTo 42 (66, .iload_n 3, 1) rfl) rfl rfl ?_
    obtain ⟨g18, P⟩ := P
    obtain ⟨g19, P⟩ := P
    refine mx_iast (pc := 67) g18 g19 (mx_dd dd_X12_addsTo 43 (67, .iastore, 1) rfl) ?_
    have P := P _ rfl
    exact mx_return (pc := 68) (mx_dd dd_X12_addsTo 44 (68, .return_, 1) rfl) rfl P
  · have P := P.2 c36
    refine mx_aload_n (pc := 39) 1 (mx_dd dd_X12_addsTo 25 (39, .aload_n 0, 1) rfl) rfl rfl ?_
    obtain ⟨b7, g20, P⟩ := P
    refine mx_getR (pc := 40) mx_fl_X12_325 g1 rfl g20 (mx_dd dd_X12_addsTo 26 (40, .getfield 325, 3) rfl) ?_
    refine mx_iload_n (pc := 43) 2 (mx_dd dd_X12_addsTo 27 (43, .iload_n 1, 1) rfl) rfl rfl ?_
    refine mx_iload_n (pc := 44) 0 (mx_dd dd_X12_addsTo 28 (44, .iload_n 3, 1) rfl) rfl rfl ?_
    obtain ⟨g21, P⟩ := P
    obtain ⟨g22, P⟩ := P
    refine mx_iast (pc := 45) g21 g22 (mx_dd dd_X12_addsTo 29 (45, .iastore, 1) rfl) ?_
    have P := P _ rfl
    refine mx_goto (pc := 46) 61 (mx_dd dd_X12_addsTo 30 (46, .goto 15, 3) rfl) rfl ?_
    refine mx_aload_n (pc := 61) 1 (mx_dd dd_X12_addsTo 39 (61, .aload_n 0, 1) rfl) rfl rfl ?_
    obtain ⟨b8, g23, P⟩ := P
    refine mx_getR (pc := 62) mx_fl_X12_398 g1 rfl g23 (mx_dd dd_X12_addsTo 40 (62, .getfield 398, 3) rfl) ?_
    refine mx_iload_n (pc := 65) 2 (mx_dd dd_X12_addsTo 41 (65, .iload_n 1, 1) rfl) rfl rfl ?_
    refine mx_iload_n (pc := 66) 0 (mx_dd dd_X12_addsTo 42 (66, .iload_n 3, 1) rfl) rfl rfl ?_
    obtain ⟨g24, P⟩ := P
    obtain ⟨g25, P⟩ := P
    refine mx_iast (pc := 67) g24 g25 (mx_dd dd_X12_addsTo 43 (67, .iastore, 1) rfl) ?_
    have P := P _ rfl
    exact mx_return (pc := 68) (mx_dd dd_X12_addsTo 44 (68, .return_, 1) rfl) rfl P
theorem b_X12_of {d : Nat} {h : mxH} {Q : mxRes → mxH → Prop} (x0 : Nat) (x1 : Int32) (x2 : Int32)
    (P : hpK h x0 = 12 ∧ ∃ b1 : Nat, hpR h x0 71 = some b1 ∧ hpK h b1 = 14 ∧ vp_in (((83 : Int32) * x1) + x2) (hpZ h b1) ∧ Q (.inl (some (.int (hpI h b1 (((83 : Int32) * x1) + x2).toNatClampNeg)))) h) : mx_SM mY_X12_of d [.ref x0, .int x1, .int x2] h Q := by
  refine mx_SM_of (by decide) (Nat.le_of_ble_eq_true rfl) ?_
  show mx_SX mY_X12_of d 0 [(0, .ref x0), (1, .int x1), (2, .int x2)] [] h Q
  refine mx_aload_n (pc := 0) 0 (mx_dd dd_X12_of 0 (0, .aload_n 0, 1) rfl) rfl rfl ?_
  obtain ⟨g1, P⟩ := P
  obtain ⟨b1, g2, P⟩ := P
  refine mx_getR (pc := 1) mx_fl_X12_319 g1 rfl g2 (mx_dd dd_X12_of 1 (1, .getfield 319, 3) rfl) ?_
  refine mx_bipush (pc := 4) (v := (83 : Int32)) (mx_dd dd_X12_of 2 (4, .bipush 83, 2) rfl) (by decide) ?_
  refine mx_iload_n (pc := 6) 1 (mx_dd dd_X12_of 3 (6, .iload_n 1, 1) rfl) rfl rfl ?_
  refine mx_imul (pc := 7) (mx_dd dd_X12_of 4 (7, .imul, 1) rfl) ?_
  refine mx_iload_n (pc := 8) 2 (mx_dd dd_X12_of 5 (8, .iload_n 2, 1) rfl) rfl rfl ?_
  refine mx_iadd (pc := 9) (mx_dd dd_X12_of 6 (9, .iadd, 1) rfl) ?_
  obtain ⟨g3, P⟩ := P
  obtain ⟨g4, P⟩ := P
  refine mx_iald (pc := 10) g3 g4 (mx_dd dd_X12_of 7 (10, .iaload, 1) rfl) ?_
  exact mx_ireturn (pc := 11) (mx_dd dd_X12_of 8 (11, .ireturn, 1) rfl) rfl rfl P
theorem b_X12_sets {d : Nat} {h : mxH} {Q : mxRes → mxH → Prop} (x0 : Nat) (x1 : Int32) (x2 : Int32) (x3 : Int32)
    (P : hpK h x0 = 12 ∧ ∃ b1 : Nat, hpR h x0 71 = some b1 ∧ hpK h b1 = 14 ∧ vp_in (((83 : Int32) * x1) + x2) (hpZ h b1) ∧ ∀ h1 : mxH, h1 = hsI h b1 (((83 : Int32) * x1) + x2).toNatClampNeg x3 → Q (.inl none) h1) : mx_SM mY_X12_sets d [.ref x0, .int x1, .int x2, .int x3] h Q := by
  refine mx_SM_of (by decide) (Nat.le_of_ble_eq_true rfl) ?_
  show mx_SX mY_X12_sets d 0 [(0, .ref x0), (1, .int x1), (2, .int x2), (3, .int x3)] [] h Q
  refine mx_aload_n (pc := 0) 0 (mx_dd dd_X12_sets 0 (0, .aload_n 0, 1) rfl) rfl rfl ?_
  obtain ⟨g1, P⟩ := P
  obtain ⟨b1, g2, P⟩ := P
  refine mx_getR (pc := 1) mx_fl_X12_319 g1 rfl g2 (mx_dd dd_X12_sets 1 (1, .getfield 319, 3) rfl) ?_
  refine mx_bipush (pc := 4) (v := (83 : Int32)) (mx_dd dd_X12_sets 2 (4, .bipush 83, 2) rfl) (by decide) ?_
  refine mx_iload_n (pc := 6) 1 (mx_dd dd_X12_sets 3 (6, .iload_n 1, 1) rfl) rfl rfl ?_
  refine mx_imul (pc := 7) (mx_dd dd_X12_sets 4 (7, .imul, 1) rfl) ?_
  refine mx_iload_n (pc := 8) 2 (mx_dd dd_X12_sets 5 (8, .iload_n 2, 1) rfl) rfl rfl ?_
  refine mx_iadd (pc := 9) (mx_dd dd_X12_sets 6 (9, .iadd, 1) rfl) ?_
  refine mx_iload_n (pc := 10) 3 (mx_dd dd_X12_sets 7 (10, .iload_n 3, 1) rfl) rfl rfl ?_
  obtain ⟨g3, P⟩ := P
  obtain ⟨g4, P⟩ := P
  refine mx_iast (pc := 11) g3 g4 (mx_dd dd_X12_sets 8 (11, .iastore, 1) rfl) ?_
  have P := P _ rfl
  exact mx_return (pc := 12) (mx_dd dd_X12_sets 9 (12, .return_, 1) rfl) rfl P
theorem b_X12_handle {d : Nat} {h : mxH} {Q : mxRes → mxH → Prop} (x0 : Nat) (x1 : Int32) (x2 : Int32)
    (P : hpK h x0 = 12 ∧ ∃ b1 : Nat, hpR h x0 71 = some b1 ∧ hpK h b1 = 14 ∧ vp_in ((((83 : Int32) * x1) + (36 : Int32)) + x2) (hpZ h b1) ∧ Q (.inl (some (.int (hpI h b1 ((((83 : Int32) * x1) + (36 : Int32)) + x2).toNatClampNeg)))) h) : mx_SM mY_X12_handle d [.ref x0, .int x1, .int x2] h Q := by
  refine mx_SM_of (by decide) (Nat.le_of_ble_eq_true rfl) ?_
  show mx_SX mY_X12_handle d 0 [(0, .ref x0), (1, .int x1), (2, .int x2)] [] h Q
  refine mx_aload_n (pc := 0) 0 (mx_dd dd_X12_handle 0 (0, .aload_n 0, 1) rfl) rfl rfl ?_
  obtain ⟨g1, P⟩ := P
  obtain ⟨b1, g2, P⟩ := P
  refine mx_getR (pc := 1) mx_fl_X12_319 g1 rfl g2 (mx_dd dd_X12_handle 1 (1, .getfield 319, 3) rfl) ?_
  refine mx_bipush (pc := 4) (v := (83 : Int32)) (mx_dd dd_X12_handle 2 (4, .bipush 83, 2) rfl) (by decide) ?_
  refine mx_iload_n (pc := 6) 1 (mx_dd dd_X12_handle 3 (6, .iload_n 1, 1) rfl) rfl rfl ?_
  refine mx_imul (pc := 7) (mx_dd dd_X12_handle 4 (7, .imul, 1) rfl) ?_
  refine mx_bipush (pc := 8) (v := (36 : Int32)) (mx_dd dd_X12_handle 5 (8, .bipush 36, 2) rfl) (by decide) ?_
  refine mx_iadd (pc := 10) (mx_dd dd_X12_handle 6 (10, .iadd, 1) rfl) ?_
  refine mx_iload_n (pc := 11) 2 (mx_dd dd_X12_handle 7 (11, .iload_n 2, 1) rfl) rfl rfl ?_
  refine mx_iadd (pc := 12) (mx_dd dd_X12_handle 8 (12, .iadd, 1) rfl) ?_
  obtain ⟨g3, P⟩ := P
  obtain ⟨g4, P⟩ := P
  refine mx_iald (pc := 13) g3 g4 (mx_dd dd_X12_handle 9 (13, .iaload, 1) rfl) ?_
  exact mx_ireturn (pc := 14) (mx_dd dd_X12_handle 10 (14, .ireturn, 1) rfl) rfl rfl P
theorem b_X12_nameOf {d : Nat} {h : mxH} {Q : mxRes → mxH → Prop} (x0 : Nat) (x1 : Int32) (x2 : Int32)
    (P : hpK h x0 = 12 ∧ ∃ b1 : Nat, hpR h x0 72 = some b1 ∧ hpK h b1 = 15 ∧ vp_in (((34 : Int32) * x1) + x2) (hpZ h b1) ∧ Q (.inl (some (.long (hpL h b1 (((34 : Int32) * x1) + x2).toNatClampNeg)))) h) : mx_SM mY_X12_nameOf d [.ref x0, .int x1, .int x2] h Q := by
  refine mx_SM_of (by decide) (Nat.le_of_ble_eq_true rfl) ?_
  show mx_SX mY_X12_nameOf d 0 [(0, .ref x0), (1, .int x1), (2, .int x2)] [] h Q
  refine mx_aload_n (pc := 0) 0 (mx_dd dd_X12_nameOf 0 (0, .aload_n 0, 1) rfl) rfl rfl ?_
  obtain ⟨g1, P⟩ := P
  obtain ⟨b1, g2, P⟩ := P
  refine mx_getR (pc := 1) mx_fl_X12_407 g1 rfl g2 (mx_dd dd_X12_nameOf 1 (1, .getfield 407, 3) rfl) ?_
  refine mx_bipush (pc := 4) (v := (34 : Int32)) (mx_dd dd_X12_nameOf 2 (4, .bipush 34, 2) rfl) (by decide) ?_
  refine mx_iload_n (pc := 6) 1 (mx_dd dd_X12_nameOf 3 (6, .iload_n 1, 1) rfl) rfl rfl ?_
  refine mx_imul (pc := 7) (mx_dd dd_X12_nameOf 4 (7, .imul, 1) rfl) ?_
  refine mx_iload_n (pc := 8) 2 (mx_dd dd_X12_nameOf 5 (8, .iload_n 2, 1) rfl) rfl rfl ?_
  refine mx_iadd (pc := 9) (mx_dd dd_X12_nameOf 6 (9, .iadd, 1) rfl) ?_
  obtain ⟨g3, P⟩ := P
  obtain ⟨g4, P⟩ := P
  refine mx_lald (pc := 10) g3 g4 (mx_dd dd_X12_nameOf 7 (10, .laload, 1) rfl) ?_
  exact mx_lreturn (pc := 11) (mx_dd dd_X12_nameOf 8 (11, .lreturn, 1) rfl) rfl P
theorem b_X12_setsName {d : Nat} {h : mxH} {Q : mxRes → mxH → Prop} (x0 : Nat) (x1 : Int32) (x2 : Int32) (x3 : Int64)
    (P : hpK h x0 = 12 ∧ ∃ b1 : Nat, hpR h x0 72 = some b1 ∧ hpK h b1 = 15 ∧ vp_in (((34 : Int32) * x1) + x2) (hpZ h b1) ∧ ∀ h1 : mxH, h1 = hsL h b1 (((34 : Int32) * x1) + x2).toNatClampNeg x3 → Q (.inl none) h1) : mx_SM mY_X12_setsName d [.ref x0, .int x1, .int x2, .long x3] h Q := by
  refine mx_SM_of (by decide) (Nat.le_of_ble_eq_true rfl) ?_
  show mx_SX mY_X12_setsName d 0 [(0, .ref x0), (1, .int x1), (2, .int x2), (3, .long x3)] [] h Q
  refine mx_aload_n (pc := 0) 0 (mx_dd dd_X12_setsName 0 (0, .aload_n 0, 1) rfl) rfl rfl ?_
  obtain ⟨g1, P⟩ := P
  obtain ⟨b1, g2, P⟩ := P
  refine mx_getR (pc := 1) mx_fl_X12_407 g1 rfl g2 (mx_dd dd_X12_setsName 1 (1, .getfield 407, 3) rfl) ?_
  refine mx_bipush (pc := 4) (v := (34 : Int32)) (mx_dd dd_X12_setsName 2 (4, .bipush 34, 2) rfl) (by decide) ?_
  refine mx_iload_n (pc := 6) 1 (mx_dd dd_X12_setsName 3 (6, .iload_n 1, 1) rfl) rfl rfl ?_
  refine mx_imul (pc := 7) (mx_dd dd_X12_setsName 4 (7, .imul, 1) rfl) ?_
  refine mx_iload_n (pc := 8) 2 (mx_dd dd_X12_setsName 5 (8, .iload_n 2, 1) rfl) rfl rfl ?_
  refine mx_iadd (pc := 9) (mx_dd dd_X12_setsName 6 (9, .iadd, 1) rfl) ?_
  refine mx_lload_n (pc := 10) 3 (mx_dd dd_X12_setsName 7 (10, .lload_n 3, 1) rfl) rfl rfl ?_
  obtain ⟨g3, P⟩ := P
  obtain ⟨g4, P⟩ := P
  refine mx_last (pc := 11) g3 g4 (mx_dd dd_X12_setsName 8 (11, .lastore, 1) rfl) ?_
  have P := P _ rfl
  exact mx_return (pc := 12) (mx_dd dd_X12_setsName 9 (12, .return_, 1) rfl) rfl P
theorem b_X12_beginsAnew {d : Nat} {h : mxH} {Q : mxRes → mxH → Prop} (x0 : Nat)
    (P : mx_SX mY_X12_beginsAnew d 2 [(0, .ref x0), (1, .int (0 : Int32))] [] h Q) : mx_SM mY_X12_beginsAnew d [.ref x0] h Q := by
  refine mx_SM_of (by decide) (Nat.le_of_ble_eq_true rfl) ?_
  show mx_SX mY_X12_beginsAnew d 0 [(0, .ref x0)] [] h Q
  refine mx_iconst (pc := 0) (v := (0 : Int32)) (mx_dd dd_X12_beginsAnew_0 0 (0, .iconst 0, 1) rfl) (by decide) ?_
  refine mx_istore_n (pc := 1) (mx_dd dd_X12_beginsAnew_0 1 (1, .istore_n 1, 1) rfl) rfl (by decide) (lv' := [(1, _), (0, _)]) rfl ?_
  refine mx_sel [1, 0] rfl ?_
  exact P
theorem b_X12_beginsAnew_2 {d : Nat} {h : mxH} {Q : mxRes → mxH → Prop} (x0 : Nat) (x1 : Int32)
    (P : (((83 : Int32) ≤ x1 → mx_SX mY_X12_beginsAnew d 23 [(0, .ref x0), (1, .int (0 : Int32))] [] h Q) ∧ (¬ (83 : Int32) ≤ x1 → hpK h x0 = 12 ∧ ∃ b1 : Nat, hpR h x0 71 = some b1 ∧ hpK h b1 = 14 ∧ vp_in x1 (hpZ h b1) ∧ ∀ h1 : mxH, h1 = hsI h b1 x1.toNatClampNeg (0 : Int32) → mx_SX mY_X12_beginsAnew d 2 [(0, .ref x0), (1, .int (x1 + (1 : Int32)))] [] h1 Q))) : mx_SX mY_X12_beginsAnew d 2 [(0, .ref x0), (1, .int x1)] [] h Q := by
  refine mx_iload_n (pc := 2) 1 (mx_dd dd_X12_beginsAnew_0 2 (2, .iload_n 1, 1) rfl) rfl rfl ?_
  refine mx_bipush (pc := 3) (v := (83 : Int32)) (mx_dd dd_X12_beginsAnew_0 3 (3, .bipush 83, 2) rfl) (by decide) ?_
  refine mx_icmp_ge (pc := 5) 21 (mx_dd dd_X12_beginsAnew_0 4 (5, .if_icmp .ge 16, 3) rfl) rfl (fun c5 => ?_) (fun c5 => ?_)
  · have P := P.1 c5
    refine mx_iconst (pc := 21) (v := (0 : Int32)) (mx_dd dd_X12_beginsAnew_0 12 (21, .iconst 0, 1) rfl) (by decide) ?_
    refine mx_istore_n (pc := 22) (mx_dd dd_X12_beginsAnew_0 13 (22, .istore_n 1, 1) rfl) rfl (by decide) (lv' := [(1, _), (0, _)]) rfl ?_
    refine mx_sel [1, 0] rfl ?_
    exact P
  · have P := P.2 c5
    refine mx_aload_n (pc := 8) 0 (mx_dd dd_X12_beginsAnew_0 5 (8, .aload_n 0, 1) rfl) rfl rfl ?_
    obtain ⟨g1, P⟩ := P
    obtain ⟨b1, g2, P⟩ := P
    refine mx_getR (pc := 9) mx_fl_X12_319 g1 rfl g2 (mx_dd dd_X12_beginsAnew_0 6 (9, .getfield 319, 3) rfl) ?_
    refine mx_iload_n (pc := 12) 1 (mx_dd dd_X12_beginsAnew_0 7 (12, .iload_n 1, 1) rfl) rfl rfl ?_
    refine mx_iconst (pc := 13) (v := (0 : Int32)) (mx_dd dd_X12_beginsAnew_0 8 (13, .iconst 0, 1) rfl) (by decide) ?_
    obtain ⟨g3, P⟩ := P
    obtain ⟨g4, P⟩ := P
    refine mx_iast (pc := 14) g3 g4 (mx_dd dd_X12_beginsAnew_0 9 (14, .iastore, 1) rfl) ?_
    have P := P _ rfl
    refine mx_iinc (pc := 15) 1 (mx_dd dd_X12_beginsAnew_0 10 (15, .iinc 1 1, 3) rfl) rfl (mx_kadd (by decide : Int32.ofInt 1 = (1 : Int32))) (by decide) (lv' := [(1, _), (0, _)]) rfl ?_
    refine mx_goto (pc := 18) 2 (mx_dd dd_X12_beginsAnew_0 11 (18, .goto (-16), 3) rfl) rfl ?_
    refine mx_sel [1, 0] rfl ?_
    exact P
theorem b_X12_beginsAnew_23 {d : Nat} {h : mxH} {Q : mxRes → mxH → Prop} (x0 : Nat) (x1 : Int32)
    (P : (((34 : Int32) ≤ x1 → hpK h x0 = 12 ∧ ∃ b1 : Nat, hpR h x0 71 = some b1 ∧ hpK h b1 = 14 ∧ vp_in (82 : Int32) (hpZ h b1) ∧ ∀ h1 : mxH, h1 = hsI h b1 (82 : Int32).toNatClampNeg (1 : Int32) → mx_SX mY_X12_beginsAnew d 52 [(0, .ref x0), (1, .int (0 : Int32))] [] h1 Q) ∧ (¬ (34 : Int32) ≤ x1 → hpK h x0 = 12 ∧ ∃ b2 : Nat, hpR h x0 72 = some b2 ∧ hpK h b2 = 15 ∧ vp_in x1 (hpZ h b2) ∧ ∀ h2 : mxH, h2 = hsL h b2 x1.toNatClampNeg (0 : Int64) → mx_SX mY_X12_beginsAnew d 23 [(0, .ref x0), (1, .int (x1 + (1 : Int32)))] [] h2 Q))) : mx_SX mY_X12_beginsAnew d 23 [(0, .ref x0), (1, .int x1)] [] h Q := by
  refine mx_iload_n (pc := 23) 1 (mx_dd dd_X12_beginsAnew_0 14 (23, .iload_n 1, 1) rfl) rfl rfl ?_
  refine mx_bipush (pc := 24) (v := (34 : Int32)) (mx_dd dd_X12_beginsAnew_0 15 (24, .bipush 34, 2) rfl) (by decide) ?_
  refine mx_icmp_ge (pc := 26) 42 (mx_dd dd_X12_beginsAnew_0 16 (26, .if_icmp .ge 16, 3) rfl) rfl (fun c26 => ?_) (fun c26 => ?_)
  · have P := P.1 c26
    refine mx_aload_n (pc := 42) 0 (mx_dd dd_X12_beginsAnew_0 24 (42, .aload_n 0, 1) rfl) rfl rfl ?_
    obtain ⟨g1, P⟩ := P
    obtain ⟨b1, g2, P⟩ := P
    refine mx_getR (pc := 43) mx_fl_X12_319 g1 rfl g2 (mx_dd dd_X12_beginsAnew_0 25 (43, .getfield 319, 3) rfl) ?_
    refine mx_bipush (pc := 46) (v := (82 : Int32)) (mx_dd dd_X12_beginsAnew_0 26 (46, .bipush 82, 2) rfl) (by decide) ?_
    refine mx_iconst (pc := 48) (v := (1 : Int32)) (mx_dd dd_X12_beginsAnew_0 27 (48, .iconst 1, 1) rfl) (by decide) ?_
    obtain ⟨g3, P⟩ := P
    obtain ⟨g4, P⟩ := P
    refine mx_iast (pc := 49) g3 g4 (mx_dd dd_X12_beginsAnew_0 28 (49, .iastore, 1) rfl) ?_
    have P := P _ rfl
    refine mx_iconst (pc := 50) (v := (0 : Int32)) (mx_dd dd_X12_beginsAnew_0 29 (50, .iconst 0, 1) rfl) (by decide) ?_
    refine mx_istore_n (pc := 51) (mx_dd dd_X12_beginsAnew_0 30 (51, .istore_n 1, 1) rfl) rfl (by decide) (lv' := [(1, _), (0, _)]) rfl ?_
    refine mx_sel [1, 0] rfl ?_
    exact P
  · have P := P.2 c26
    refine mx_aload_n (pc := 29) 0 (mx_dd dd_X12_beginsAnew_0 17 (29, .aload_n 0, 1) rfl) rfl rfl ?_
    obtain ⟨g5, P⟩ := P
    obtain ⟨b2, g6, P⟩ := P
    refine mx_getR (pc := 30) mx_fl_X12_407 g5 rfl g6 (mx_dd dd_X12_beginsAnew_0 18 (30, .getfield 407, 3) rfl) ?_
    refine mx_iload_n (pc := 33) 1 (mx_dd dd_X12_beginsAnew_0 19 (33, .iload_n 1, 1) rfl) rfl rfl ?_
    refine mx_lconst (pc := 34) (v := (0 : Int64)) (mx_dd dd_X12_beginsAnew_0 20 (34, .lconst 0, 1) rfl) (by decide) ?_
    obtain ⟨g7, P⟩ := P
    obtain ⟨g8, P⟩ := P
    refine mx_last (pc := 35) g7 g8 (mx_dd dd_X12_beginsAnew_0 21 (35, .lastore, 1) rfl) ?_
    have P := P _ rfl
    refine mx_iinc (pc := 36) 1 (mx_dd dd_X12_beginsAnew_0 22 (36, .iinc 1 1, 3) rfl) rfl (mx_kadd (by decide : Int32.ofInt 1 = (1 : Int32))) (by decide) (lv' := [(1, _), (0, _)]) rfl ?_
    refine mx_goto (pc := 39) 23 (mx_dd dd_X12_beginsAnew_0 23 (39, .goto (-16), 3) rfl) rfl ?_
    refine mx_sel [1, 0] rfl ?_
    exact P
theorem b_X12_beginsAnew_52 {d : Nat} {h : mxH} {Q : mxRes → mxH → Prop} (x0 : Nat) (x1 : Int32)
    (P : (((10 : Int32) ≤ x1 → mx_SX mY_X12_beginsAnew d 76 [(0, .ref x0), (1, .int (0 : Int32))] [] h Q) ∧ (¬ (10 : Int32) ≤ x1 → hpK h x0 = 12 ∧ ∃ b1 : Nat, hpR h x0 71 = some b1 ∧ hpK h b1 = 14 ∧ vp_in ((36 : Int32) + x1) (hpZ h b1) ∧ ∀ h1 : mxH, h1 = hsI h b1 ((36 : Int32) + x1).toNatClampNeg (-1 : Int32) → mx_SX mY_X12_beginsAnew d 52 [(0, .ref x0), (1, .int (x1 + (1 : Int32)))] [] h1 Q))) : mx_SX mY_X12_beginsAnew d 52 [(0, .ref x0), (1, .int x1)] [] h Q := by
  refine mx_iload_n (pc := 52) 1 (mx_dd dd_X12_beginsAnew_0 31 (52, .iload_n 1, 1) rfl) rfl rfl ?_
  refine mx_bipush (pc := 53) (v := (10 : Int32)) (mx_dd dd_X12_beginsAnew_0 32 (53, .bipush 10, 2) rfl) (by decide) ?_
  refine mx_icmp_ge (pc := 55) 74 (mx_dd dd_X12_beginsAnew_0 33 (55, .if_icmp .ge 19, 3) rfl) rfl (fun c55 => ?_) (fun c55 => ?_)
  · have P := P.1 c55
    refine mx_iconst (pc := 74) (v := (0 : Int32)) (mx_dd dd_X12_beginsAnew_1 3 (74, .iconst 0, 1) rfl) (by decide) ?_
    refine mx_istore_n (pc := 75) (mx_dd dd_X12_beginsAnew_1 4 (75, .istore_n 1, 1) rfl) rfl (by decide) (lv' := [(1, _), (0, _)]) rfl ?_
    refine mx_sel [1, 0] rfl ?_
    exact P
  · have P := P.2 c55
    refine mx_aload_n (pc := 58) 0 (mx_dd dd_X12_beginsAnew_0 34 (58, .aload_n 0, 1) rfl) rfl rfl ?_
    obtain ⟨g1, P⟩ := P
    obtain ⟨b1, g2, P⟩ := P
    refine mx_getR (pc := 59) mx_fl_X12_319 g1 rfl g2 (mx_dd dd_X12_beginsAnew_0 35 (59, .getfield 319, 3) rfl) ?_
    refine mx_bipush (pc := 62) (v := (36 : Int32)) (mx_dd dd_X12_beginsAnew_0 36 (62, .bipush 36, 2) rfl) (by decide) ?_
    refine mx_iload_n (pc := 64) 1 (mx_dd dd_X12_beginsAnew_0 37 (64, .iload_n 1, 1) rfl) rfl rfl ?_
    refine mx_iadd (pc := 65) (mx_dd dd_X12_beginsAnew_0 38 (65, .iadd, 1) rfl) ?_
    refine mx_iconst (pc := 66) (v := (-1 : Int32)) (mx_dd dd_X12_beginsAnew_0 39 (66, .iconst (-1), 1) rfl) (by decide) ?_
    obtain ⟨g3, P⟩ := P
    obtain ⟨g4, P⟩ := P
    refine mx_iast (pc := 67) g3 g4 (mx_dd dd_X12_beginsAnew_1 0 (67, .iastore, 1) rfl) ?_
    have P := P _ rfl
    refine mx_iinc (pc := 68) 1 (mx_dd dd_X12_beginsAnew_1 1 (68, .iinc 1 1, 3) rfl) rfl (mx_kadd (by decide : Int32.ofInt 1 = (1 : Int32))) (by decide) (lv' := [(1, _), (0, _)]) rfl ?_
    refine mx_goto (pc := 71) 52 (mx_dd dd_X12_beginsAnew_1 2 (71, .goto (-19), 3) rfl) rfl ?_
    refine mx_sel [1, 0] rfl ?_
    exact P
theorem b_X12_beginsAnew_76 {d : Nat} {h : mxH} {Q : mxRes → mxH → Prop} (x0 : Nat) (x1 : Int32)
    (P : (((4000 : Int32) ≤ x1 → 1 ≤ d ∧ hpK h x0 = 12 ∧ mx_SM mY_X12_opened (d - 1) [.ref x0, .int (1 : Int32), .int (0 : Int32)] h (mx_KI (fun v1 h1 => mx_SX mY_X12_beginsAnew d 105 [(0, .ref x0), (1, .int v1), (2, .int (0 : Int32))] [] h1 Q) (mx_XX mY_X12_beginsAnew Q))) ∧ (¬ (4000 : Int32) ≤ x1 → hpK h x0 = 12 ∧ ∃ b1 : Nat, hpR h x0 58 = some b1 ∧ hpK h b1 = 14 ∧ vp_in x1 (hpZ h b1) ∧ ∀ h2 : mxH, h2 = hsI h b1 x1.toNatClampNeg (0 : Int32) → mx_SX mY_X12_beginsAnew d 76 [(0, .ref x0), (1, .int (x1 + (1 : Int32)))] [] h2 Q))) : mx_SX mY_X12_beginsAnew d 76 [(0, .ref x0), (1, .int x1)] [] h Q := by
  refine mx_iload_n (pc := 76) 1 (mx_dd dd_X12_beginsAnew_1 5 (76, .iload_n 1, 1) rfl) rfl rfl ?_
  refine mx_sipush (pc := 77) (v := (4000 : Int32)) (mx_dd dd_X12_beginsAnew_1 6 (77, .sipush 4000, 3) rfl) (by decide) ?_
  refine mx_icmp_ge (pc := 80) 96 (mx_dd dd_X12_beginsAnew_1 7 (80, .if_icmp .ge 16, 3) rfl) rfl (fun c80 => ?_) (fun c80 => ?_)
  · have P := P.1 c80
    refine mx_aload_n (pc := 96) 0 (mx_dd dd_X12_beginsAnew_1 15 (96, .aload_n 0, 1) rfl) rfl rfl ?_
    refine mx_iconst (pc := 97) (v := (1 : Int32)) (mx_dd dd_X12_beginsAnew_1 16 (97, .iconst 1, 1) rfl) (by decide) ?_
    refine mx_iconst (pc := 98) (v := (0 : Int32)) (mx_dd dd_X12_beginsAnew_1 17 (98, .iconst 0, 1) rfl) (by decide) ?_
    obtain ⟨g1, P⟩ := P
    obtain ⟨g2, P⟩ := P
    refine mx_cVI (pc := 99) (Y := mY_X12_opened) (As := [.int _, .int _]) mx_ml_X12_410 mx_y_X12_opened rfl g2 (by decide) rfl (by decide) rfl (mx_dd dd_X12_beginsAnew_1 18 (99, .invokevirtual 410, 3) rfl) g1 (by decide) P (fun v1 h1 P => ?_)
    refine mx_istore_n (pc := 102) (mx_dd dd_X12_beginsAnew_1 19 (102, .istore_n 1, 1) rfl) rfl (by decide) (lv' := [(1, _), (0, _)]) rfl ?_
    refine mx_iconst (pc := 103) (v := (0 : Int32)) (mx_dd dd_X12_beginsAnew_1 20 (103, .iconst 0, 1) rfl) (by decide) ?_
    refine mx_istore_n (pc := 104) (mx_dd dd_X12_beginsAnew_1 21 (104, .istore_n 2, 1) rfl) rfl (by decide) (lv' := [(2, _), (1, _), (0, _)]) rfl ?_
    refine mx_sel [2, 1, 0] rfl ?_
    exact P
  · have P := P.2 c80
    refine mx_aload_n (pc := 83) 0 (mx_dd dd_X12_beginsAnew_1 8 (83, .aload_n 0, 1) rfl) rfl rfl ?_
    obtain ⟨g3, P⟩ := P
    obtain ⟨b1, g4, P⟩ := P
    refine mx_getR (pc := 84) mx_fl_X12_380 g3 rfl g4 (mx_dd dd_X12_beginsAnew_1 9 (84, .getfield 380, 3) rfl) ?_
    refine mx_iload_n (pc := 87) 1 (mx_dd dd_X12_beginsAnew_1 10 (87, .iload_n 1, 1) rfl) rfl rfl ?_
    refine mx_iconst (pc := 88) (v := (0 : Int32)) (mx_dd dd_X12_beginsAnew_1 11 (88, .iconst 0, 1) rfl) (by decide) ?_
    obtain ⟨g5, P⟩ := P
    obtain ⟨g6, P⟩ := P
    refine mx_iast (pc := 89) g5 g6 (mx_dd dd_X12_beginsAnew_1 12 (89, .iastore, 1) rfl) ?_
    have P := P _ rfl
    refine mx_iinc (pc := 90) 1 (mx_dd dd_X12_beginsAnew_1 13 (90, .iinc 1 1, 3) rfl) rfl (mx_kadd (by decide : Int32.ofInt 1 = (1 : Int32))) (by decide) (lv' := [(1, _), (0, _)]) rfl ?_
    refine mx_goto (pc := 93) 76 (mx_dd dd_X12_beginsAnew_1 14 (93, .goto (-17), 3) rfl) rfl ?_
    refine mx_sel [1, 0] rfl ?_
    exact P
theorem b_X12_beginsAnew_105 {d : Nat} {h : mxH} {Q : mxRes → mxH → Prop} (x0 : Nat) (x1 : Int32) (x2 : Int32)
    (P : (((3 : Int32) ≤ x2 → mx_SX mY_X12_beginsAnew d 128 [(0, .ref x0), (2, .int (0 : Int32))] [] h Q) ∧ (¬ (3 : Int32) ≤ x2 → hpK h x0 = 12 ∧ ∃ b1 : Nat, hpR h x0 71 = some b1 ∧ hpK h b1 = 14 ∧ vp_in ((36 : Int32) + x2) (hpZ h b1) ∧ ∀ h1 : mxH, h1 = hsI h b1 ((36 : Int32) + x2).toNatClampNeg x1 → mx_SX mY_X12_beginsAnew d 105 [(0, .ref x0), (1, .int x1), (2, .int (x2 + (1 : Int32)))] [] h1 Q))) : mx_SX mY_X12_beginsAnew d 105 [(0, .ref x0), (1, .int x1), (2, .int x2)] [] h Q := by
  refine mx_iload_n (pc := 105) 2 (mx_dd dd_X12_beginsAnew_1 22 (105, .iload_n 2, 1) rfl) rfl rfl ?_
  refine mx_iconst (pc := 106) (v := (3 : Int32)) (mx_dd dd_X12_beginsAnew_1 23 (106, .iconst 3, 1) rfl) (by decide) ?_
  refine mx_icmp_ge (pc := 107) 126 (mx_dd dd_X12_beginsAnew_1 24 (107, .if_icmp .ge 19, 3) rfl) rfl (fun c107 => ?_) (fun c107 => ?_)
  · have P := P.1 c107
    refine mx_iconst (pc := 126) (v := (0 : Int32)) (mx_dd dd_X12_beginsAnew_1 34 (126, .iconst 0, 1) rfl) (by decide) ?_
    refine mx_istore_n (pc := 127) (mx_dd dd_X12_beginsAnew_1 35 (127, .istore_n 2, 1) rfl) rfl (by decide) (lv' := [(2, _), (0, _), (1, _)]) rfl ?_
    refine mx_sel [1, 0] rfl ?_
    exact P
  · have P := P.2 c107
    refine mx_aload_n (pc := 110) 0 (mx_dd dd_X12_beginsAnew_1 25 (110, .aload_n 0, 1) rfl) rfl rfl ?_
    obtain ⟨g1, P⟩ := P
    obtain ⟨b1, g2, P⟩ := P
    refine mx_getR (pc := 111) mx_fl_X12_319 g1 rfl g2 (mx_dd dd_X12_beginsAnew_1 26 (111, .getfield 319, 3) rfl) ?_
    refine mx_bipush (pc := 114) (v := (36 : Int32)) (mx_dd dd_X12_beginsAnew_1 27 (114, .bipush 36, 2) rfl) (by decide) ?_
    refine mx_iload_n (pc := 116) 2 (mx_dd dd_X12_beginsAnew_1 28 (116, .iload_n 2, 1) rfl) rfl rfl ?_
    refine mx_iadd (pc := 117) (mx_dd dd_X12_beginsAnew_1 29 (117, .iadd, 1) rfl) ?_
    refine mx_iload_n (pc := 118) 1 (mx_dd dd_X12_beginsAnew_1 30 (118, .iload_n 1, 1) rfl) rfl rfl ?_
    obtain ⟨g3, P⟩ := P
    obtain ⟨g4, P⟩ := P
    refine mx_iast (pc := 119) g3 g4 (mx_dd dd_X12_beginsAnew_1 31 (119, .iastore, 1) rfl) ?_
    have P := P _ rfl
    refine mx_iinc (pc := 120) 2 (mx_dd dd_X12_beginsAnew_1 32 (120, .iinc 2 1, 3) rfl) rfl (mx_kadd (by decide : Int32.ofInt 1 = (1 : Int32))) (by decide) (lv' := [(2, _), (0, _), (1, _)]) rfl ?_
    refine mx_goto (pc := 123) 105 (mx_dd dd_X12_beginsAnew_1 33 (123, .goto (-18), 3) rfl) rfl ?_
    refine mx_sel [1, 2, 0] rfl ?_
    exact P
theorem b_X12_beginsAnew_128 {d : Nat} {h : mxH} {Q : mxRes → mxH → Prop} (x0 : Nat) (x2 : Int32)
    (P : (((184 : Int32) ≤ x2 → hpK h x0 = 12 ∧ ∀ h1 : mxH, h1 = hsI h x0 82 (0 : Int32) → Q (.inl none) h1) ∧ (¬ (184 : Int32) ≤ x2 → hpK h x0 = 12 ∧ ∃ b1 : Nat, hpR h x0 73 = some b1 ∧ hpK h b1 = 14 ∧ vp_in x2 (hpZ h b1) ∧ ∀ h2 : mxH, h2 = hsI h b1 x2.toNatClampNeg (0 : Int32) → mx_SX mY_X12_beginsAnew d 128 [(0, .ref x0), (2, .int (x2 + (1 : Int32)))] [] h2 Q))) : mx_SX mY_X12_beginsAnew d 128 [(0, .ref x0), (2, .int x2)] [] h Q := by
  refine mx_iload_n (pc := 128) 1 (mx_dd dd_X12_beginsAnew_1 36 (128, .iload_n 2, 1) rfl) rfl rfl ?_
  refine mx_sipush (pc := 129) (v := (184 : Int32)) (mx_dd dd_X12_beginsAnew_1 37 (129, .sipush 184, 3) rfl) (by decide) ?_
  refine mx_icmp_ge (pc := 132) 148 (mx_dd dd_X12_beginsAnew_1 38 (132, .if_icmp .ge 16, 3) rfl) rfl (fun c132 => ?_) (fun c132 => ?_)
  · have P := P.1 c132
    refine mx_aload_n (pc := 148) 0 (mx_dd dd_X12_beginsAnew_2 6 (148, .aload_n 0, 1) rfl) rfl rfl ?_
    refine mx_iconst (pc := 149) (v := (0 : Int32)) (mx_dd dd_X12_beginsAnew_2 7 (149, .iconst 0, 1) rfl) (by decide) ?_
    obtain ⟨g1, P⟩ := P
    refine mx_putI (pc := 150) mx_fl_X12_337 g1 rfl (.inl rfl) rfl rfl (mx_dd dd_X12_beginsAnew_2 8 (150, .putfield 337, 3) rfl) ?_
    have P := P _ rfl
    exact mx_return (pc := 153) (mx_dd dd_X12_beginsAnew_2 9 (153, .return_, 1) rfl) rfl P
  · have P := P.2 c132
    refine mx_aload_n (pc := 135) 0 (mx_dd dd_X12_beginsAnew_1 39 (135, .aload_n 0, 1) rfl) rfl rfl ?_
    obtain ⟨g2, P⟩ := P
    obtain ⟨b1, g3, P⟩ := P
    refine mx_getR (pc := 136) mx_fl_X12_413 g2 rfl g3 (mx_dd dd_X12_beginsAnew_2 0 (136, .getfield 413, 3) rfl) ?_
    refine mx_iload_n (pc := 139) 1 (mx_dd dd_X12_beginsAnew_2 1 (139, .iload_n 2, 1) rfl) rfl rfl ?_
    refine mx_iconst (pc := 140) (v := (0 : Int32)) (mx_dd dd_X12_beginsAnew_2 2 (140, .iconst 0, 1) rfl) (by decide) ?_
    obtain ⟨g4, P⟩ := P
    obtain ⟨g5, P⟩ := P
    refine mx_iast (pc := 141) g4 g5 (mx_dd dd_X12_beginsAnew_2 3 (141, .iastore, 1) rfl) ?_
    have P := P _ rfl
    refine mx_iinc (pc := 142) 1 (mx_dd dd_X12_beginsAnew_2 4 (142, .iinc 2 1, 3) rfl) rfl (mx_kadd (by decide : Int32.ofInt 1 = (1 : Int32))) (by decide) (lv' := [(2, _), (0, _)]) rfl ?_
    refine mx_goto (pc := 145) 128 (mx_dd dd_X12_beginsAnew_2 5 (145, .goto (-17), 3) rfl) rfl ?_
    refine mx_sel [1, 0] rfl ?_
    exact P
theorem b_X12_fork {d : Nat} {h : mxH} {Q : mxRes → mxH → Prop} (x0 : Nat) (x1 : Int32)
    (P : mx_SX mY_X12_fork d 2 [(0, .ref x0), (1, .int x1), (2, .int (1 : Int32))] [] h Q) : mx_SM mY_X12_fork d [.ref x0, .int x1] h Q := by
  refine mx_SM_of (by decide) (Nat.le_of_ble_eq_true rfl) ?_
  show mx_SX mY_X12_fork d 0 [(0, .ref x0), (1, .int x1)] [] h Q
  refine mx_iconst (pc := 0) (v := (1 : Int32)) (mx_dd dd_X12_fork_0 0 (0, .iconst 1, 1) rfl) (by decide) ?_
  refine mx_istore_n (pc := 1) (mx_dd dd_X12_fork_0 1 (1, .istore_n 2, 1) rfl) rfl (by decide) (lv' := [(2, _), (0, _), (1, _)]) rfl ?_
  refine mx_sel [1, 2, 0] rfl ?_
  exact P
theorem b_X12_fork_2 {d : Nat} {h : mxH} {Q : mxRes → mxH → Prop} (x0 : Nat) (x1 : Int32) (x2 : Int32)
    (P : 1 ≤ d ∧ hpK h x0 = 12 ∧ mx_SM mY_X12_of (d - 1) [.ref x0, .int x2, .int (82 : Int32)] h (mx_KI (fun v1 h1 => ((¬ v1 = (1 : Int32) → mx_SX mY_X12_fork d 21 [(0, .ref x0), (1, .int x1), (2, .int x2), (3, .int (0 : Int32))] [] h1 Q) ∧ (v1 = (1 : Int32) → mx_SX mY_X12_fork d 2 [(0, .ref x0), (1, .int x1), (2, .int (x2 + (1 : Int32)))] [] h1 Q))) (mx_XX mY_X12_fork Q))) : mx_SX mY_X12_fork d 2 [(0, .ref x0), (1, .int x1), (2, .int x2)] [] h Q := by
  refine mx_aload_n (pc := 2) 0 (mx_dd dd_X12_fork_0 2 (2, .aload_n 0, 1) rfl) rfl rfl ?_
  refine mx_iload_n (pc := 3) 2 (mx_dd dd_X12_fork_0 3 (3, .iload_n 2, 1) rfl) rfl rfl ?_
  refine mx_bipush (pc := 4) (v := (82 : Int32)) (mx_dd dd_X12_fork_0 4 (4, .bipush 82, 2) rfl) (by decide) ?_
  obtain ⟨g1, P⟩ := P
  obtain ⟨g2, P⟩ := P
  refine mx_cVI (pc := 6) (Y := mY_X12_of) (As := [.int _, .int _]) mx_ml_X12_416 mx_y_X12_of rfl g2 (by decide) rfl (by decide) rfl (mx_dd dd_X12_fork_0 5 (6, .invokevirtual 416, 3) rfl) g1 (by decide) P (fun v1 h1 P => ?_)
  refine mx_iconst (pc := 9) (v := (1 : Int32)) (mx_dd dd_X12_fork_0 6 (9, .iconst 1, 1) rfl) (by decide) ?_
  refine mx_icmp_ne (pc := 10) 19 (mx_dd dd_X12_fork_0 7 (10, .if_icmp .ne 9, 3) rfl) rfl (fun c10 => ?_) (fun c10 => ?_)
  · have P := P.1 c10
    refine mx_iconst (pc := 19) (v := (0 : Int32)) (mx_dd dd_X12_fork_0 10 (19, .iconst 0, 1) rfl) (by decide) ?_
    refine mx_istore_n (pc := 20) (mx_dd dd_X12_fork_0 11 (20, .istore_n 3, 1) rfl) rfl (by decide) (lv' := [(3, _), (0, _), (1, _), (2, _)]) rfl ?_
    refine mx_sel [1, 2, 3, 0] rfl ?_
    exact P
  · have P := P.2 c10
    refine mx_iinc (pc := 13) 2 (mx_dd dd_X12_fork_0 8 (13, .iinc 2 1, 3) rfl) rfl (mx_kadd (by decide : Int32.ofInt 1 = (1 : Int32))) (by decide) (lv' := [(2, _), (0, _), (1, _)]) rfl ?_
    refine mx_goto (pc := 16) 2 (mx_dd dd_X12_fork_0 9 (16, .goto (-14), 3) rfl) rfl ?_
    refine mx_sel [1, 2, 0] rfl ?_
    exact P
theorem b_X12_fork_21 {d : Nat} {h : mxH} {Q : mxRes → mxH → Prop} (x0 : Nat) (x1 : Int32) (x2 : Int32) (x3 : Int32)
    (P : (((83 : Int32) ≤ x3 → mx_SX mY_X12_fork d 47 [(0, .ref x0), (1, .int x1), (2, .int x2), (3, .int (0 : Int32))] [] h Q) ∧ (¬ (83 : Int32) ≤ x3 → 1 ≤ d ∧ hpK h x0 = 12 ∧ mx_SM mY_X12_of (d - 1) [.ref x0, .int x1, .int x3] h (mx_KI (fun v1 h1 => hpK h1 x0 = 12 ∧ mx_SM mY_X12_sets (d - 1) [.ref x0, .int x2, .int x3, .int v1] h1 (mx_KV (fun h2 => mx_SX mY_X12_fork d 21 [(0, .ref x0), (1, .int x1), (2, .int x2), (3, .int (x3 + (1 : Int32)))] [] h2 Q) (mx_XX mY_X12_fork Q))) (mx_XX mY_X12_fork Q))))) : mx_SX mY_X12_fork d 21 [(0, .ref x0), (1, .int x1), (2, .int x2), (3, .int x3)] [] h Q := by
  refine mx_iload_n (pc := 21) 3 (mx_dd dd_X12_fork_0 12 (21, .iload_n 3, 1) rfl) rfl rfl ?_
  refine mx_bipush (pc := 22) (v := (83 : Int32)) (mx_dd dd_X12_fork_0 13 (22, .bipush 83, 2) rfl) (by decide) ?_
  refine mx_icmp_ge (pc := 24) 45 (mx_dd dd_X12_fork_0 14 (24, .if_icmp .ge 21, 3) rfl) rfl (fun c24 => ?_) (fun c24 => ?_)
  · have P := P.1 c24
    refine mx_iconst (pc := 45) (v := (0 : Int32)) (mx_dd dd_X12_fork_0 25 (45, .iconst 0, 1) rfl) (by decide) ?_
    refine mx_istore_n (pc := 46) (mx_dd dd_X12_fork_0 26 (46, .istore_n 3, 1) rfl) rfl (by decide) (lv' := [(3, _), (0, _), (1, _), (2, _)]) rfl ?_
    refine mx_sel [1, 2, 3, 0] rfl ?_
    exact P
  · have P := P.2 c24
    refine mx_aload_n (pc := 27) 0 (mx_dd dd_X12_fork_0 15 (27, .aload_n 0, 1) rfl) rfl rfl ?_
    refine mx_iload_n (pc := 28) 2 (mx_dd dd_X12_fork_0 16 (28, .iload_n 2, 1) rfl) rfl rfl ?_
    refine mx_iload_n (pc := 29) 3 (mx_dd dd_X12_fork_0 17 (29, .iload_n 3, 1) rfl) rfl rfl ?_
    refine mx_aload_n (pc := 30) 0 (mx_dd dd_X12_fork_0 18 (30, .aload_n 0, 1) rfl) rfl rfl ?_
    refine mx_iload_n (pc := 31) 1 (mx_dd dd_X12_fork_0 19 (31, .iload_n 1, 1) rfl) rfl rfl ?_
    refine mx_iload_n (pc := 32) 3 (mx_dd dd_X12_fork_0 20 (32, .iload_n 3, 1) rfl) rfl rfl ?_
    obtain ⟨g1, P⟩ := P
    obtain ⟨g2, P⟩ := P
    refine mx_cVI (pc := 33) (Y := mY_X12_of) (As := [.int _, .int _]) mx_ml_X12_416 mx_y_X12_of rfl g2 (by decide) rfl (by simp [Value.category]) rfl (mx_dd dd_X12_fork_0 21 (33, .invokevirtual 416, 3) rfl) g1 (by decide) P (fun v1 h1 P => ?_)
    obtain ⟨g3, P⟩ := P
    refine mx_cVV (pc := 36) (Y := mY_X12_sets) (As := [.int _, .int _, .int _]) mx_ml_X12_419 mx_y_X12_sets rfl g3 (by decide) rfl (by decide) rfl (mx_dd dd_X12_fork_0 22 (36, .invokevirtual 419, 3) rfl) g1 (by decide) P (fun h2 P => ?_)
    refine mx_iinc (pc := 39) 3 (mx_dd dd_X12_fork_0 23 (39, .iinc 3 1, 3) rfl) rfl (mx_kadd (by decide : Int32.ofInt 1 = (1 : Int32))) (by decide) (lv' := [(3, _), (0, _), (1, _), (2, _)]) rfl ?_
    refine mx_goto (pc := 42) 21 (mx_dd dd_X12_fork_0 24 (42, .goto (-21), 3) rfl) rfl ?_
    refine mx_sel [1, 2, 3, 0] rfl ?_
    exact P
theorem b_X12_fork_47 {d : Nat} {h : mxH} {Q : mxRes → mxH → Prop} (x0 : Nat) (x1 : Int32) (x2 : Int32) (x3 : Int32)
    (P : (((34 : Int32) ≤ x3 → mx_SX mY_X12_fork d 73 [(0, .ref x0), (1, .int x1), (2, .int x2), (3, .int (0 : Int32))] [] h Q) ∧ (¬ (34 : Int32) ≤ x3 → 1 ≤ d ∧ hpK h x0 = 12 ∧ mx_SM mY_X12_nameOf (d - 1) [.ref x0, .int x1, .int x3] h (mx_KL (fun v1 h1 => hpK h1 x0 = 12 ∧ mx_SM mY_X12_setsName (d - 1) [.ref x0, .int x2, .int x3, .long v1] h1 (mx_KV (fun h2 => mx_SX mY_X12_fork d 47 [(0, .ref x0), (1, .int x1), (2, .int x2), (3, .int (x3 + (1 : Int32)))] [] h2 Q) (mx_XX mY_X12_fork Q))) (mx_XX mY_X12_fork Q))))) : mx_SX mY_X12_fork d 47 [(0, .ref x0), (1, .int x1), (2, .int x2), (3, .int x3)] [] h Q := by
  refine mx_iload_n (pc := 47) 3 (mx_dd dd_X12_fork_0 27 (47, .iload_n 3, 1) rfl) rfl rfl ?_
  refine mx_bipush (pc := 48) (v := (34 : Int32)) (mx_dd dd_X12_fork_0 28 (48, .bipush 34, 2) rfl) (by decide) ?_
  refine mx_icmp_ge (pc := 50) 71 (mx_dd dd_X12_fork_0 29 (50, .if_icmp .ge 21, 3) rfl) rfl (fun c50 => ?_) (fun c50 => ?_)
  · have P := P.1 c50
    refine mx_iconst (pc := 71) (v := (0 : Int32)) (mx_dd dd_X12_fork_1 0 (71, .iconst 0, 1) rfl) (by decide) ?_
    refine mx_istore_n (pc := 72) (mx_dd dd_X12_fork_1 1 (72, .istore_n 3, 1) rfl) rfl (by decide) (lv' := [(3, _), (0, _), (1, _), (2, _)]) rfl ?_
    refine mx_sel [1, 2, 3, 0] rfl ?_
    exact P
  · have P := P.2 c50
    refine mx_aload_n (pc := 53) 0 (mx_dd dd_X12_fork_0 30 (53, .aload_n 0, 1) rfl) rfl rfl ?_
    refine mx_iload_n (pc := 54) 2 (mx_dd dd_X12_fork_0 31 (54, .iload_n 2, 1) rfl) rfl rfl ?_
    refine mx_iload_n (pc := 55) 3 (mx_dd dd_X12_fork_0 32 (55, .iload_n 3, 1) rfl) rfl rfl ?_
    refine mx_aload_n (pc := 56) 0 (mx_dd dd_X12_fork_0 33 (56, .aload_n 0, 1) rfl) rfl rfl ?_
    refine mx_iload_n (pc := 57) 1 (mx_dd dd_X12_fork_0 34 (57, .iload_n 1, 1) rfl) rfl rfl ?_
    refine mx_iload_n (pc := 58) 3 (mx_dd dd_X12_fork_0 35 (58, .iload_n 3, 1) rfl) rfl rfl ?_
    obtain ⟨g1, P⟩ := P
    obtain ⟨g2, P⟩ := P
    refine mx_cVL (pc := 59) (Y := mY_X12_nameOf) (As := [.int _, .int _]) mx_ml_X12_423 mx_y_X12_nameOf rfl g2 (by decide) rfl (by simp [Value.category]) rfl (mx_dd dd_X12_fork_0 36 (59, .invokevirtual 423, 3) rfl) g1 (by decide) P (fun v1 h1 P => ?_)
    obtain ⟨g3, P⟩ := P
    refine mx_cVV (pc := 62) (Y := mY_X12_setsName) (As := [.int _, .int _, .long _]) mx_ml_X12_427 mx_y_X12_setsName rfl g3 (by decide) rfl (by decide) rfl (mx_dd dd_X12_fork_0 37 (62, .invokevirtual 427, 3) rfl) g1 (by decide) P (fun h2 P => ?_)
    refine mx_iinc (pc := 65) 3 (mx_dd dd_X12_fork_0 38 (65, .iinc 3 1, 3) rfl) rfl (mx_kadd (by decide : Int32.ofInt 1 = (1 : Int32))) (by decide) (lv' := [(3, _), (0, _), (1, _), (2, _)]) rfl ?_
    refine mx_goto (pc := 68) 47 (mx_dd dd_X12_fork_0 39 (68, .goto (-21), 3) rfl) rfl ?_
    refine mx_sel [1, 2, 3, 0] rfl ?_
    exact P
theorem b_X12_fork_73 {d : Nat} {h : mxH} {Q : mxRes → mxH → Prop} (x0 : Nat) (x1 : Int32) (x2 : Int32) (x3 : Int32)
    (P : (((4 : Int32) ≤ x3 → 1 ≤ d ∧ hpK h x0 = 12 ∧ mx_SM mY_X12_of (d - 1) [.ref x0, .int x1, .int (34 : Int32)] h (mx_KI (fun v1 h1 => hpK h1 x0 = 12 ∧ mx_SM mY_X12_sets (d - 1) [.ref x0, .int x2, .int (34 : Int32), .int (v1 + (1 : Int32))] h1 (mx_KV (fun h2 => hpK h2 x0 = 12 ∧ mx_SM mY_X12_of (d - 1) [.ref x0, .int x1, .int (46 : Int32)] h2 (mx_KI (fun v2 h3 => hpK h3 x0 = 12 ∧ mx_SM mY_X12_sets (d - 1) [.ref x0, .int x2, .int (47 : Int32), .int v2] h3 (mx_KV (fun h4 => hpK h4 x0 = 12 ∧ mx_SM mY_X12_sets (d - 1) [.ref x0, .int x2, .int (48 : Int32), .int (0 : Int32)] h4 (mx_KV (fun h5 => hpK h5 x0 = 12 ∧ mx_SM mY_X12_sets (d - 1) [.ref x0, .int x2, .int (49 : Int32), .int (0 : Int32)] h5 (mx_KV (fun h6 => hpK h6 x0 = 12 ∧ ∃ b1 : Nat, hpR h6 x0 73 = some b1 ∧ hpK h6 b1 = 14 ∧ vp_in (1 : Int32) (hpZ h6 b1) ∧ ∀ h7 : mxH, h7 = hsI h6 b1 (1 : Int32).toNatClampNeg ((hpI h6 b1 (1 : Int32).toNatClampNeg) + (1 : Int32)) → Q (.inl (some (.int x2))) h7) (mx_XX mY_X12_fork Q))) (mx_XX mY_X12_fork Q))) (mx_XX mY_X12_fork Q))) (mx_XX mY_X12_fork Q))) (mx_XX mY_X12_fork Q))) (mx_XX mY_X12_fork Q))) ∧ (¬ (4 : Int32) ≤ x3 → 1 ≤ d ∧ hpK h x0 = 12 ∧ mx_SM mY_X12_nameOf (d - 1) [.ref x0, .int x2, .int ((30 : Int32) + x3)] h (mx_KL (fun v3 h8 => (((lg_cmp v3 (-2 : Int64)) = 0 → mx_SX mY_X12_fork d 104 [(0, .ref x0), (1, .int x1), (2, .int x2), (3, .int x3)] [] h8 Q) ∧ (¬ (lg_cmp v3 (-2 : Int64)) = 0 → hpK h8 x0 = 12 ∧ mx_SM mY_X12_setsName (d - 1) [.ref x0, .int x2, .int ((30 : Int32) + x3), .long (0 : Int64)] h8 (mx_KV (fun h9 => mx_SX mY_X12_fork d 104 [(0, .ref x0), (1, .int x1), (2, .int x2), (3, .int x3)] [] h9 Q) (mx_XX mY_X12_fork Q))))) (mx_XX mY_X12_fork Q))))) : mx_SX mY_X12_fork d 73 [(0, .ref x0), (1, .int x1), (2, .int x2), (3, .int x3)] [] h Q := by
  refine mx_iload_n (pc := 73) 3 (mx_dd dd_X12_fork_1 2 (73, .iload_n 3, 1) rfl) rfl rfl ?_
  refine mx_iconst (pc := 74) (v := (4 : Int32)) (mx_dd dd_X12_fork_1 3 (74, .iconst 4, 1) rfl) (by decide) ?_
  refine mx_icmp_ge (pc := 75) 110 (mx_dd dd_X12_fork_1 4 (75, .if_icmp .ge 35, 3) rfl) rfl (fun c75 => ?_) (fun c75 => ?_)
  · have P := P.1 c75
    refine mx_aload_n (pc := 110) 0 (mx_dd dd_X12_fork_1 23 (110, .aload_n 0, 1) rfl) rfl rfl ?_
    refine mx_iload_n (pc := 111) 2 (mx_dd dd_X12_fork_1 24 (111, .iload_n 2, 1) rfl) rfl rfl ?_
    refine mx_bipush (pc := 112) (v := (34 : Int32)) (mx_dd dd_X12_fork_1 25 (112, .bipush 34, 2) rfl) (by decide) ?_
    refine mx_aload_n (pc := 114) 0 (mx_dd dd_X12_fork_1 26 (114, .aload_n 0, 1) rfl) rfl rfl ?_
    refine mx_iload_n (pc := 115) 1 (mx_dd dd_X12_fork_1 27 (115, .iload_n 1, 1) rfl) rfl rfl ?_
    refine mx_bipush (pc := 116) (v := (34 : Int32)) (mx_dd dd_X12_fork_1 28 (116, .bipush 34, 2) rfl) (by decide) ?_
    obtain ⟨g1, P⟩ := P
    obtain ⟨g2, P⟩ := P
    refine mx_cVI (pc := 118) (Y := mY_X12_of) (As := [.int _, .int _]) mx_ml_X12_416 mx_y_X12_of rfl g2 (by decide) rfl (by simp [Value.category]) rfl (mx_dd dd_X12_fork_1 29 (118, .invokevirtual 416, 3) rfl) g1 (by decide) P (fun v1 h1 P => ?_)
    refine mx_iconst (pc := 121) (v := (1 : Int32)) (mx_dd dd_X12_fork_1 30 (121, .iconst 1, 1) rfl) (by decide) ?_
    refine mx_iadd (pc := 122) (mx_dd dd_X12_fork_1 31 (122, .iadd, 1) rfl) ?_
    obtain ⟨g3, P⟩ := P
    refine mx_cVV (pc := 123) (Y := mY_X12_sets) (As := [.int _, .int _, .int _]) mx_ml_X12_419 mx_y_X12_sets rfl g3 (by decide) rfl (by decide) rfl (mx_dd dd_X12_fork_1 32 (123, .invokevirtual 419, 3) rfl) g1 (by decide) P (fun h2 P => ?_)
    refine mx_aload_n (pc := 126) 0 (mx_dd dd_X12_fork_1 33 (126, .aload_n 0, 1) rfl) rfl rfl ?_
    refine mx_iload_n (pc := 127) 2 (mx_dd dd_X12_fork_1 34 (127, .iload_n 2, 1) rfl) rfl rfl ?_
    refine mx_bipush (pc := 128) (v := (47 : Int32)) (mx_dd dd_X12_fork_1 35 (128, .bipush 47, 2) rfl) (by decide) ?_
    refine mx_aload_n (pc := 130) 0 (mx_dd dd_X12_fork_1 36 (130, .aload_n 0, 1) rfl) rfl rfl ?_
    refine mx_iload_n (pc := 131) 1 (mx_dd dd_X12_fork_1 37 (131, .iload_n 1, 1) rfl) rfl rfl ?_
    refine mx_bipush (pc := 132) (v := (46 : Int32)) (mx_dd dd_X12_fork_1 38 (132, .bipush 46, 2) rfl) (by decide) ?_
    obtain ⟨g4, P⟩ := P
    refine mx_cVI (pc := 134) (Y := mY_X12_of) (As := [.int _, .int _]) mx_ml_X12_416 mx_y_X12_of rfl g4 (by decide) rfl (by simp [Value.category]) rfl (mx_dd dd_X12_fork_1 39 (134, .invokevirtual 416, 3) rfl) g1 (by decide) P (fun v2 h3 P => ?_)
    obtain ⟨g5, P⟩ := P
    refine mx_cVV (pc := 137) (Y := mY_X12_sets) (As := [.int _, .int _, .int _]) mx_ml_X12_419 mx_y_X12_sets rfl g5 (by decide) rfl (by decide) rfl (mx_dd dd_X12_fork_2 0 (137, .invokevirtual 419, 3) rfl) g1 (by decide) P (fun h4 P => ?_)
    refine mx_aload_n (pc := 140) 0 (mx_dd dd_X12_fork_2 1 (140, .aload_n 0, 1) rfl) rfl rfl ?_
    refine mx_iload_n (pc := 141) 2 (mx_dd dd_X12_fork_2 2 (141, .iload_n 2, 1) rfl) rfl rfl ?_
    refine mx_bipush (pc := 142) (v := (48 : Int32)) (mx_dd dd_X12_fork_2 3 (142, .bipush 48, 2) rfl) (by decide) ?_
    refine mx_iconst (pc := 144) (v := (0 : Int32)) (mx_dd dd_X12_fork_2 4 (144, .iconst 0, 1) rfl) (by decide) ?_
    obtain ⟨g6, P⟩ := P
    refine mx_cVV (pc := 145) (Y := mY_X12_sets) (As := [.int _, .int _, .int _]) mx_ml_X12_419 mx_y_X12_sets rfl g6 (by decide) rfl (by decide) rfl (mx_dd dd_X12_fork_2 5 (145, .invokevirtual 419, 3) rfl) g1 (by decide) P (fun h5 P => ?_)
    refine mx_aload_n (pc := 148) 0 (mx_dd dd_X12_fork_2 6 (148, .aload_n 0, 1) rfl) rfl rfl ?_
    refine mx_iload_n (pc := 149) 2 (mx_dd dd_X12_fork_2 7 (149, .iload_n 2, 1) rfl) rfl rfl ?_
    refine mx_bipush (pc := 150) (v := (49 : Int32)) (mx_dd dd_X12_fork_2 8 (150, .bipush 49, 2) rfl) (by decide) ?_
    refine mx_iconst (pc := 152) (v := (0 : Int32)) (mx_dd dd_X12_fork_2 9 (152, .iconst 0, 1) rfl) (by decide) ?_
    obtain ⟨g7, P⟩ := P
    refine mx_cVV (pc := 153) (Y := mY_X12_sets) (As := [.int _, .int _, .int _]) mx_ml_X12_419 mx_y_X12_sets rfl g7 (by decide) rfl (by decide) rfl (mx_dd dd_X12_fork_2 10 (153, .invokevirtual 419, 3) rfl) g1 (by decide) P (fun h6 P => ?_)
    refine mx_aload_n (pc := 156) 0 (mx_dd dd_X12_fork_2 11 (156, .aload_n 0, 1) rfl) rfl rfl ?_
    obtain ⟨g8, P⟩ := P
    obtain ⟨b1, g9, P⟩ := P
    refine mx_getR (pc := 157) mx_fl_X12_413 g8 rfl g9 (mx_dd dd_X12_fork_2 12 (157, .getfield 413, 3) rfl) ?_
    refine mx_iconst (pc := 160) (v := (1 : Int32)) (mx_dd dd_X12_fork_2 13 (160, .iconst 1, 1) rfl) (by decide) ?_
    refine mx_dup2 (pc := 161) (mx_dd dd_X12_fork_2 14 (161, .dup2, 1) rfl) rfl rfl ?_
    obtain ⟨g10, P⟩ := P
    obtain ⟨g11, P⟩ := P
    refine mx_iald (pc := 162) g10 g11 (mx_dd dd_X12_fork_2 15 (162, .iaload, 1) rfl) ?_
    refine mx_iconst (pc := 163) (v := (1 : Int32)) (mx_dd dd_X12_fork_2 16 (163, .iconst 1, 1) rfl) (by decide) ?_
    refine mx_iadd (pc := 164) (mx_dd dd_X12_fork_2 17 (164, .iadd, 1) rfl) ?_
    refine mx_iast (pc := 165) g10 g11 (mx_dd dd_X12_fork_2 18 (165, .iastore, 1) rfl) ?_
    have P := P _ rfl
    refine mx_iload_n (pc := 166) 2 (mx_dd dd_X12_fork_2 19 (166, .iload_n 2, 1) rfl) rfl rfl ?_
    exact mx_ireturn (pc := 167) (mx_dd dd_X12_fork_2 20 (167, .ireturn, 1) rfl) rfl rfl P
  · have P := P.2 c75
    refine mx_aload_n (pc := 78) 0 (mx_dd dd_X12_fork_1 5 (78, .aload_n 0, 1) rfl) rfl rfl ?_
    refine mx_iload_n (pc := 79) 2 (mx_dd dd_X12_fork_1 6 (79, .iload_n 2, 1) rfl) rfl rfl ?_
    refine mx_bipush (pc := 80) (v := (30 : Int32)) (mx_dd dd_X12_fork_1 7 (80, .bipush 30, 2) rfl) (by decide) ?_
    refine mx_iload_n (pc := 82) 3 (mx_dd dd_X12_fork_1 8 (82, .iload_n 3, 1) rfl) rfl rfl ?_
    refine mx_iadd (pc := 83) (mx_dd dd_X12_fork_1 9 (83, .iadd, 1) rfl) ?_
    obtain ⟨g12, P⟩ := P
    obtain ⟨g13, P⟩ := P
    refine mx_cVL (pc := 84) (Y := mY_X12_nameOf) (As := [.int _, .int _]) mx_ml_X12_423 mx_y_X12_nameOf rfl g13 (by decide) rfl (by decide) rfl (mx_dd dd_X12_fork_1 10 (84, .invokevirtual 423, 3) rfl) g12 (by decide) P (fun v3 h8 P => ?_)
    refine mx_ldc2 (pc := 87) mx_cL_X12_431 (mx_dd dd_X12_fork_1 11 (87, .ldc2_w 431, 3) rfl) ?_
    refine mx_lcmp (pc := 90) (mx_dd dd_X12_fork_1 12 (90, .lcmp, 1) rfl) ?_
    refine mx_if_eq (pc := 91) 104 (mx_dd dd_X12_fork_1 13 (91, .ifCond .eq 13, 3) rfl) rfl (fun c91 => ?_) (fun c91 => ?_)
    · have P := P.1 c91
      exact P
    · have P := P.2 c91
      refine mx_aload_n (pc := 94) 0 (mx_dd dd_X12_fork_1 14 (94, .aload_n 0, 1) rfl) rfl rfl ?_
      refine mx_iload_n (pc := 95) 2 (mx_dd dd_X12_fork_1 15 (95, .iload_n 2, 1) rfl) rfl rfl ?_
      refine mx_bipush (pc := 96) (v := (30 : Int32)) (mx_dd dd_X12_fork_1 16 (96, .bipush 30, 2) rfl) (by decide) ?_
      refine mx_iload_n (pc := 98) 3 (mx_dd dd_X12_fork_1 17 (98, .iload_n 3, 1) rfl) rfl rfl ?_
      refine mx_iadd (pc := 99) (mx_dd dd_X12_fork_1 18 (99, .iadd, 1) rfl) ?_
      refine mx_lconst (pc := 100) (v := (0 : Int64)) (mx_dd dd_X12_fork_1 19 (100, .lconst 0, 1) rfl) (by decide) ?_
      obtain ⟨g14, P⟩ := P
      refine mx_cVV (pc := 101) (Y := mY_X12_setsName) (As := [.int _, .int _, .long _]) mx_ml_X12_427 mx_y_X12_setsName rfl g14 (by decide) rfl (by decide) rfl (mx_dd dd_X12_fork_1 20 (101, .invokevirtual 427, 3) rfl) g12 (by decide) P (fun h9 P => ?_)
      exact P
theorem b_X12_fork_104 {d : Nat} {h : mxH} {Q : mxRes → mxH → Prop} (x0 : Nat) (x1 : Int32) (x2 : Int32) (x3 : Int32)
    (P : mx_SX mY_X12_fork d 73 [(0, .ref x0), (1, .int x1), (2, .int x2), (3, .int (x3 + (1 : Int32)))] [] h Q) : mx_SX mY_X12_fork d 104 [(0, .ref x0), (1, .int x1), (2, .int x2), (3, .int x3)] [] h Q := by
  refine mx_iinc (pc := 104) 3 (mx_dd dd_X12_fork_1 21 (104, .iinc 3 1, 3) rfl) rfl (mx_kadd (by decide : Int32.ofInt 1 = (1 : Int32))) (by decide) (lv' := [(3, _), (0, _), (1, _), (2, _)]) rfl ?_
  refine mx_goto (pc := 107) 73 (mx_dd dd_X12_fork_1 22 (107, .goto (-34), 3) rfl) rfl ?_
  refine mx_sel [1, 2, 3, 0] rfl ?_
  exact P
theorem b_X12_variableOf {d : Nat} {h : mxH} {Q : mxRes → mxH → Prop} (x0 : Nat) (x1 : Int32) (x2 : Int64)
    (P : mx_SX mY_X12_variableOf d 3 [(0, .ref x0), (1, .int x1), (2, .long x2), (4, .int (0 : Int32))] [] h Q) : mx_SM mY_X12_variableOf d [.ref x0, .int x1, .long x2] h Q := by
  refine mx_SM_of (by decide) (Nat.le_of_ble_eq_true rfl) ?_
  show mx_SX mY_X12_variableOf d 0 [(0, .ref x0), (1, .int x1), (2, .long x2)] [] h Q
  refine mx_iconst (pc := 0) (v := (0 : Int32)) (mx_dd dd_X12_variableOf 0 (0, .iconst 0, 1) rfl) (by decide) ?_
  refine mx_istore (pc := 1) (mx_dd dd_X12_variableOf 1 (1, .istore 4, 2) rfl) (by decide) (lv' := [(4, _), (0, _), (1, _), (2, _)]) rfl ?_
  refine mx_sel [1, 2, 3, 0] rfl ?_
  exact P
theorem b_X12_variableOf_3 {d : Nat} {h : mxH} {Q : mxRes → mxH → Prop} (x0 : Nat) (x1 : Int32) (x2 : Int64) (x4 : Int32)
    (P : 1 ≤ d ∧ hpK h x0 = 12 ∧ mx_SM mY_X12_of (d - 1) [.ref x0, .int x1, .int (0 : Int32)] h (mx_KI (fun v1 h1 => ((v1 ≤ x4 → Q (.inl (some (.int (-1 : Int32)))) h1) ∧ (¬ v1 ≤ x4 → hpK h1 x0 = 12 ∧ mx_SM mY_X12_nameOf (d - 1) [.ref x0, .int x1, .int x4] h1 (mx_KL (fun v2 h2 => ((¬ (lg_cmp v2 x2) = 0 → mx_SX mY_X12_variableOf d 3 [(0, .ref x0), (1, .int x1), (2, .long x2), (4, .int (x4 + (1 : Int32)))] [] h2 Q) ∧ ((lg_cmp v2 x2) = 0 → Q (.inl (some (.int x4))) h2))) (mx_XX mY_X12_variableOf Q))))) (mx_XX mY_X12_variableOf Q))) : mx_SX mY_X12_variableOf d 3 [(0, .ref x0), (1, .int x1), (2, .long x2), (4, .int x4)] [] h Q := by
  refine mx_iload (pc := 3) 3 (mx_dd dd_X12_variableOf 2 (3, .iload 4, 2) rfl) rfl ?_
  refine mx_aload_n (pc := 5) 0 (mx_dd dd_X12_variableOf 3 (5, .aload_n 0, 1) rfl) rfl rfl ?_
  refine mx_iload_n (pc := 6) 1 (mx_dd dd_X12_variableOf 4 (6, .iload_n 1, 1) rfl) rfl rfl ?_
  refine mx_iconst (pc := 7) (v := (0 : Int32)) (mx_dd dd_X12_variableOf 5 (7, .iconst 0, 1) rfl) (by decide) ?_
  obtain ⟨g1, P⟩ := P
  obtain ⟨g2, P⟩ := P
  refine mx_cVI (pc := 8) (Y := mY_X12_of) (As := [.int _, .int _]) mx_ml_X12_416 mx_y_X12_of rfl g2 (by decide) rfl (by simp [Value.category]) rfl (mx_dd dd_X12_variableOf 6 (8, .invokevirtual 416, 3) rfl) g1 (by decide) P (fun v1 h1 P => ?_)
  refine mx_icmp_ge (pc := 11) 35 (mx_dd dd_X12_variableOf 7 (11, .if_icmp .ge 24, 3) rfl) rfl (fun c11 => ?_) (fun c11 => ?_)
  · have P := P.1 c11
    refine mx_iconst (pc := 35) (v := (-1 : Int32)) (mx_dd dd_X12_variableOf 19 (35, .iconst (-1), 1) rfl) (by decide) ?_
    exact mx_ireturn (pc := 36) (mx_dd dd_X12_variableOf 20 (36, .ireturn, 1) rfl) rfl rfl P
  · have P := P.2 c11
    refine mx_aload_n (pc := 14) 0 (mx_dd dd_X12_variableOf 8 (14, .aload_n 0, 1) rfl) rfl rfl ?_
    refine mx_iload_n (pc := 15) 1 (mx_dd dd_X12_variableOf 9 (15, .iload_n 1, 1) rfl) rfl rfl ?_
    refine mx_iload (pc := 16) 3 (mx_dd dd_X12_variableOf 10 (16, .iload 4, 2) rfl) rfl ?_
    obtain ⟨g3, P⟩ := P
    refine mx_cVL (pc := 18) (Y := mY_X12_nameOf) (As := [.int _, .int _]) mx_ml_X12_423 mx_y_X12_nameOf rfl g3 (by decide) rfl (by decide) rfl (mx_dd dd_X12_variableOf 11 (18, .invokevirtual 423, 3) rfl) g1 (by decide) P (fun v2 h2 P => ?_)
    refine mx_lload_n (pc := 21) 2 (mx_dd dd_X12_variableOf 12 (21, .lload_n 2, 1) rfl) rfl rfl ?_
    refine mx_lcmp (pc := 22) (mx_dd dd_X12_variableOf 13 (22, .lcmp, 1) rfl) ?_
    refine mx_if_ne (pc := 23) 29 (mx_dd dd_X12_variableOf 14 (23, .ifCond .ne 6, 3) rfl) rfl (fun c23 => ?_) (fun c23 => ?_)
    · have P := P.1 c23
      refine mx_iinc (pc := 29) 3 (mx_dd dd_X12_variableOf 17 (29, .iinc 4 1, 3) rfl) rfl (mx_kadd (by decide : Int32.ofInt 1 = (1 : Int32))) (by decide) (lv' := [(4, _), (0, _), (1, _), (2, _)]) rfl ?_
      refine mx_goto (pc := 32) 3 (mx_dd dd_X12_variableOf 18 (32, .goto (-29), 3) rfl) rfl ?_
      refine mx_sel [1, 2, 3, 0] rfl ?_
      exact P
    · have P := P.2 c23
      refine mx_iload (pc := 26) 3 (mx_dd dd_X12_variableOf 15 (26, .iload 4, 2) rfl) rfl ?_
      exact mx_ireturn (pc := 28) (mx_dd dd_X12_variableOf 16 (28, .ireturn, 1) rfl) rfl rfl P
theorem b_X12_assigns {d : Nat} {h : mxH} {Q : mxRes → mxH → Prop} (x0 : Nat) (x1 : Int32) (x2 : Int64) (x4 : Int32)
    (P : 1 ≤ d ∧ hpK h x0 = 12 ∧ mx_SM mY_X12_variableOf (d - 1) [.ref x0, .int x1, .long x2] h (mx_KI (fun v1 h1 => ((¬ v1 = (-1 : Int32) → mx_SX mY_X12_assigns d 27 [(0, .ref x0), (1, .int x1), (2, .long x2), (4, .int x4), (5, .int v1)] [] h1 Q) ∧ (v1 = (-1 : Int32) → hpK h1 x0 = 12 ∧ mx_SM mY_X12_of (d - 1) [.ref x0, .int x1, .int (0 : Int32)] h1 (mx_KI (fun v2 h2 => ((¬ v2 = (20 : Int32) → mx_SX mY_X12_assigns d 27 [(0, .ref x0), (1, .int x1), (2, .long x2), (4, .int x4), (5, .int v1)] [] h2 Q) ∧ (v2 = (20 : Int32) → Q (.inl (some (.int (0 : Int32)))) h2))) (mx_XX mY_X12_assigns Q))))) (mx_XX mY_X12_assigns Q))) : mx_SM mY_X12_assigns d [.ref x0, .int x1, .long x2, .int x4] h Q := by
  refine mx_SM_of (by decide) (Nat.le_of_ble_eq_true rfl) ?_
  show mx_SX mY_X12_assigns d 0 [(0, .ref x0), (1, .int x1), (2, .long x2), (4, .int x4)] [] h Q
  refine mx_aload_n (pc := 0) 0 (mx_dd dd_X12_assigns 0 (0, .aload_n 0, 1) rfl) rfl rfl ?_
  refine mx_iload_n (pc := 1) 1 (mx_dd dd_X12_assigns 1 (1, .iload_n 1, 1) rfl) rfl rfl ?_
  refine mx_lload_n (pc := 2) 2 (mx_dd dd_X12_assigns 2 (2, .lload_n 2, 1) rfl) rfl rfl ?_
  obtain ⟨g1, P⟩ := P
  obtain ⟨g2, P⟩ := P
  refine mx_cVI (pc := 3) (Y := mY_X12_variableOf) (As := [.int _, .long _]) mx_ml_X12_433 mx_y_X12_variableOf rfl g2 (by decide) rfl (by decide) rfl (mx_dd dd_X12_assigns 3 (3, .invokevirtual 433, 3) rfl) g1 (by decide) P (fun v1 h1 P => ?_)
  refine mx_istore (pc := 6) (mx_dd dd_X12_assigns 4 (6, .istore 5, 2) rfl) (by decide) (lv' := [(5, _), (0, _), (1, _), (2, _), (4, _)]) rfl ?_
  refine mx_iload (pc := 8) 0 (mx_dd dd_X12_assigns 5 (8, .iload 5, 2) rfl) rfl ?_
  refine mx_iconst (pc := 10) (v := (-1 : Int32)) (mx_dd dd_X12_assigns 6 (10, .iconst (-1), 1) rfl) (by decide) ?_
  refine mx_icmp_ne (pc := 11) 27 (mx_dd dd_X12_assigns 7 (11, .if_icmp .ne 16, 3) rfl) rfl (fun c11 => ?_) (fun c11 => ?_)
  · have P := P.1 c11
    refine mx_sel [1, 2, 3, 4, 0] rfl ?_
    exact P
  · have P := P.2 c11
    refine mx_aload_n (pc := 14) 1 (mx_dd dd_X12_assigns 8 (14, .aload_n 0, 1) rfl) rfl rfl ?_
    refine mx_iload_n (pc := 15) 2 (mx_dd dd_X12_assigns 9 (15, .iload_n 1, 1) rfl) rfl rfl ?_
    refine mx_iconst (pc := 16) (v := (0 : Int32)) (mx_dd dd_X12_assigns 10 (16, .iconst 0, 1) rfl) (by decide) ?_
    obtain ⟨g3, P⟩ := P
    refine mx_cVI (pc := 17) (Y := mY_X12_of) (As := [.int _, .int _]) mx_ml_X12_416 mx_y_X12_of rfl g3 (by decide) rfl (by decide) rfl (mx_dd dd_X12_assigns 11 (17, .invokevirtual 416, 3) rfl) g1 (by decide) P (fun v2 h2 P => ?_)
    refine mx_bipush (pc := 20) (v := (20 : Int32)) (mx_dd dd_X12_assigns 12 (20, .bipush 20, 2) rfl) (by decide) ?_
    refine mx_icmp_ne (pc := 22) 27 (mx_dd dd_X12_assigns 13 (22, .if_icmp .ne 5, 3) rfl) rfl (fun c22 => ?_) (fun c22 => ?_)
    · have P := P.1 c22
      refine mx_sel [1, 2, 3, 4, 0] rfl ?_
      exact P
    · have P := P.2 c22
      refine mx_iconst (pc := 25) (v := (0 : Int32)) (mx_dd dd_X12_assigns 14 (25, .iconst 0, 1) rfl) (by decide) ?_
      exact mx_ireturn (pc := 26) (mx_dd dd_X12_assigns 15 (26, .ireturn, 1) rfl) rfl rfl P
theorem b_X12_assigns_27 {d : Nat} {h : mxH} {Q : mxRes → mxH → Prop} (x0 : Nat) (x1 : Int32) (x2 : Int64) (x4 : Int32) (x5 : Int32)
    (P : ((¬ x5 = (-1 : Int32) → mx_SX mY_X12_assigns d 59 [(0, .ref x0), (1, .int x1), (4, .int x4), (5, .int x5)] [] h Q) ∧ (x5 = (-1 : Int32) → 1 ≤ d ∧ hpK h x0 = 12 ∧ mx_SM mY_X12_of (d - 1) [.ref x0, .int x1, .int (0 : Int32)] h (mx_KI (fun v1 h1 => hpK h1 x0 = 12 ∧ mx_SM mY_X12_sets (d - 1) [.ref x0, .int x1, .int (0 : Int32), .int (v1 + (1 : Int32))] h1 (mx_KV (fun h2 => hpK h2 x0 = 12 ∧ mx_SM mY_X12_setsName (d - 1) [.ref x0, .int x1, .int v1, .long x2] h2 (mx_KV (fun h3 => mx_SX mY_X12_assigns d 59 [(0, .ref x0), (1, .int x1), (4, .int x4), (5, .int v1)] [] h3 Q) (mx_XX mY_X12_assigns Q))) (mx_XX mY_X12_assigns Q))) (mx_XX mY_X12_assigns Q))))) : mx_SX mY_X12_assigns d 27 [(0, .ref x0), (1, .int x1), (2, .long x2), (4, .int x4), (5, .int x5)] [] h Q := by
  refine mx_iload (pc := 27) 4 (mx_dd dd_X12_assigns 16 (27, .iload 5, 2) rfl) rfl ?_
  refine mx_iconst (pc := 29) (v := (-1 : Int32)) (mx_dd dd_X12_assigns 17 (29, .iconst (-1), 1) rfl) (by decide) ?_
  refine mx_icmp_ne (pc := 30) 59 (mx_dd dd_X12_assigns 18 (30, .if_icmp .ne 29, 3) rfl) rfl (fun c30 => ?_) (fun c30 => ?_)
  · have P := P.1 c30
    refine mx_sel [0, 1, 3, 4] rfl ?_
    exact P
  · have P := P.2 c30
    refine mx_aload_n (pc := 33) 0 (mx_dd dd_X12_assigns 19 (33, .aload_n 0, 1) rfl) rfl rfl ?_
    refine mx_iload_n (pc := 34) 1 (mx_dd dd_X12_assigns 20 (34, .iload_n 1, 1) rfl) rfl rfl ?_
    refine mx_iconst (pc := 35) (v := (0 : Int32)) (mx_dd dd_X12_assigns 21 (35, .iconst 0, 1) rfl) (by decide) ?_
    obtain ⟨g1, P⟩ := P
    obtain ⟨g2, P⟩ := P
    refine mx_cVI (pc := 36) (Y := mY_X12_of) (As := [.int _, .int _]) mx_ml_X12_416 mx_y_X12_of rfl g2 (by decide) rfl (by decide) rfl (mx_dd dd_X12_assigns 22 (36, .invokevirtual 416, 3) rfl) g1 (by decide) P (fun v1 h1 P => ?_)
    refine mx_istore (pc := 39) (mx_dd dd_X12_assigns 23 (39, .istore 5, 2) rfl) (by decide) (lv' := [(5, _), (0, _), (1, _), (2, _), (4, _)]) rfl ?_
    refine mx_aload_n (pc := 41) 1 (mx_dd dd_X12_assigns 24 (41, .aload_n 0, 1) rfl) rfl rfl ?_
    refine mx_iload_n (pc := 42) 2 (mx_dd dd_X12_assigns 25 (42, .iload_n 1, 1) rfl) rfl rfl ?_
    refine mx_iconst (pc := 43) (v := (0 : Int32)) (mx_dd dd_X12_assigns 26 (43, .iconst 0, 1) rfl) (by decide) ?_
    refine mx_iload (pc := 44) 0 (mx_dd dd_X12_assigns 27 (44, .iload 5, 2) rfl) rfl ?_
    refine mx_iconst (pc := 46) (v := (1 : Int32)) (mx_dd dd_X12_assigns 28 (46, .iconst 1, 1) rfl) (by decide) ?_
    refine mx_iadd (pc := 47) (mx_dd dd_X12_assigns 29 (47, .iadd, 1) rfl) ?_
    obtain ⟨g3, P⟩ := P
    refine mx_cVV (pc := 48) (Y := mY_X12_sets) (As := [.int _, .int _, .int _]) mx_ml_X12_419 mx_y_X12_sets rfl g3 (by decide) rfl (by decide) rfl (mx_dd dd_X12_assigns 30 (48, .invokevirtual 419, 3) rfl) g1 (by decide) P (fun h2 P => ?_)
    refine mx_aload_n (pc := 51) 1 (mx_dd dd_X12_assigns 31 (51, .aload_n 0, 1) rfl) rfl rfl ?_
    refine mx_iload_n (pc := 52) 2 (mx_dd dd_X12_assigns 32 (52, .iload_n 1, 1) rfl) rfl rfl ?_
    refine mx_iload (pc := 53) 0 (mx_dd dd_X12_assigns 33 (53, .iload 5, 2) rfl) rfl ?_
    refine mx_lload_n (pc := 55) 3 (mx_dd dd_X12_assigns 34 (55, .lload_n 2, 1) rfl) rfl rfl ?_
    obtain ⟨g4, P⟩ := P
    refine mx_cVV (pc := 56) (Y := mY_X12_setsName) (As := [.int _, .int _, .long _]) mx_ml_X12_427 mx_y_X12_setsName rfl g4 (by decide) rfl (by decide) rfl (mx_dd dd_X12_assigns 35 (56, .invokevirtual 427, 3) rfl) g1 (by decide) P (fun h3 P => ?_)
    refine mx_sel [1, 2, 4, 0] rfl ?_
    exact P
theorem b_X12_assigns_59 {d : Nat} {h : mxH} {Q : mxRes → mxH → Prop} (x0 : Nat) (x1 : Int32) (x4 : Int32) (x5 : Int32)
    (P : 1 ≤ d ∧ hpK h x0 = 12 ∧ mx_SM mY_X12_sets (d - 1) [.ref x0, .int x1, .int ((1 : Int32) + x5), .int x4] h (mx_KV (fun h1 => Q (.inl (some (.int (1 : Int32)))) h1) (mx_XX mY_X12_assigns Q))) : mx_SX mY_X12_assigns d 59 [(0, .ref x0), (1, .int x1), (4, .int x4), (5, .int x5)] [] h Q := by
  refine mx_aload_n (pc := 59) 0 (mx_dd dd_X12_assigns 36 (59, .aload_n 0, 1) rfl) rfl rfl ?_
  refine mx_iload_n (pc := 60) 1 (mx_dd dd_X12_assigns 37 (60, .iload_n 1, 1) rfl) rfl rfl ?_
  refine mx_iconst (pc := 61) (v := (1 : Int32)) (mx_dd dd_X12_assigns 38 (61, .iconst 1, 1) rfl) (by decide) ?_
  refine mx_iload (pc := 62) 3 (mx_dd dd_X12_assigns 39 (62, .iload 5, 2) rfl) rfl ?_
  refine mx_iadd (pc := 64) (mx_dd dd_X12_assigns 40 (64, .iadd, 1) rfl) ?_
  refine mx_iload (pc := 65) 2 (mx_dd dd_X12_assigns 41 (65, .iload 4, 2) rfl) rfl ?_
  obtain ⟨g1, P⟩ := P
  obtain ⟨g2, P⟩ := P
  refine mx_cVV (pc := 67) (Y := mY_X12_sets) (As := [.int _, .int _, .int _]) mx_ml_X12_419 mx_y_X12_sets rfl g2 (by decide) rfl (by decide) rfl (mx_dd dd_X12_assigns 42 (67, .invokevirtual 419, 3) rfl) g1 (by decide) P (fun h1 P => ?_)
  refine mx_iconst (pc := 70) (v := (1 : Int32)) (mx_dd dd_X12_assigns 43 (70, .iconst 1, 1) rfl) (by decide) ?_
  exact mx_ireturn (pc := 71) (mx_dd dd_X12_assigns 44 (71, .ireturn, 1) rfl) rfl rfl P
theorem b_X12_functionOf {d : Nat} {h : mxH} {Q : mxRes → mxH → Prop} (x0 : Nat) (x1 : Int32) (x2 : Int64)
    (P : mx_SX mY_X12_functionOf d 3 [(0, .ref x0), (1, .int x1), (2, .long x2), (4, .int (0 : Int32))] [] h Q) : mx_SM mY_X12_functionOf d [.ref x0, .int x1, .long x2] h Q := by
  refine mx_SM_of (by decide) (Nat.le_of_ble_eq_true rfl) ?_
  show mx_SX mY_X12_functionOf d 0 [(0, .ref x0), (1, .int x1), (2, .long x2)] [] h Q
  refine mx_iconst (pc := 0) (v := (0 : Int32)) (mx_dd dd_X12_functionOf 0 (0, .iconst 0, 1) rfl) (by decide) ?_
  refine mx_istore (pc := 1) (mx_dd dd_X12_functionOf 1 (1, .istore 4, 2) rfl) (by decide) (lv' := [(4, _), (0, _), (1, _), (2, _)]) rfl ?_
  refine mx_sel [1, 2, 3, 0] rfl ?_
  exact P
theorem b_X12_functionOf_3 {d : Nat} {h : mxH} {Q : mxRes → mxH → Prop} (x0 : Nat) (x1 : Int32) (x2 : Int64) (x4 : Int32)
    (P : 1 ≤ d ∧ hpK h x0 = 12 ∧ mx_SM mY_X12_of (d - 1) [.ref x0, .int x1, .int (21 : Int32)] h (mx_KI (fun v1 h1 => ((v1 ≤ x4 → Q (.inl (some (.int (-1 : Int32)))) h1) ∧ (¬ v1 ≤ x4 → hpK h1 x0 = 12 ∧ mx_SM mY_X12_nameOf (d - 1) [.ref x0, .int x1, .int ((20 : Int32) + x4)] h1 (mx_KL (fun v2 h2 => ((¬ (lg_cmp v2 x2) = 0 → mx_SX mY_X12_functionOf d 3 [(0, .ref x0), (1, .int x1), (2, .long x2), (4, .int (x4 + (1 : Int32)))] [] h2 Q) ∧ ((lg_cmp v2 x2) = 0 → Q (.inl (some (.int x4))) h2))) (mx_XX mY_X12_functionOf Q))))) (mx_XX mY_X12_functionOf Q))) : mx_SX mY_X12_functionOf d 3 [(0, .ref x0), (1, .int x1), (2, .long x2), (4, .int x4)] [] h Q := by
  refine mx_iload (pc := 3) 3 (mx_dd dd_X12_functionOf 2 (3, .iload 4, 2) rfl) rfl ?_
  refine mx_aload_n (pc := 5) 0 (mx_dd dd_X12_functionOf 3 (5, .aload_n 0, 1) rfl) rfl rfl ?_
  refine mx_iload_n (pc := 6) 1 (mx_dd dd_X12_functionOf 4 (6, .iload_n 1, 1) rfl) rfl rfl ?_
  refine mx_bipush (pc := 7) (v := (21 : Int32)) (mx_dd dd_X12_functionOf 5 (7, .bipush 21, 2) rfl) (by decide) ?_
  obtain ⟨g1, P⟩ := P
  obtain ⟨g2, P⟩ := P
  refine mx_cVI (pc := 9) (Y := mY_X12_of) (As := [.int _, .int _]) mx_ml_X12_416 mx_y_X12_of rfl g2 (by decide) rfl (by simp [Value.category]) rfl (mx_dd dd_X12_functionOf 6 (9, .invokevirtual 416, 3) rfl) g1 (by decide) P (fun v1 h1 P => ?_)
  refine mx_icmp_ge (pc := 12) 39 (mx_dd dd_X12_functionOf 7 (12, .if_icmp .ge 27, 3) rfl) rfl (fun c12 => ?_) (fun c12 => ?_)
  · have P := P.1 c12
    refine mx_iconst (pc := 39) (v := (-1 : Int32)) (mx_dd dd_X12_functionOf 21 (39, .iconst (-1), 1) rfl) (by decide) ?_
    exact mx_ireturn (pc := 40) (mx_dd dd_X12_functionOf 22 (40, .ireturn, 1) rfl) rfl rfl P
  · have P := P.2 c12
    refine mx_aload_n (pc := 15) 0 (mx_dd dd_X12_functionOf 8 (15, .aload_n 0, 1) rfl) rfl rfl ?_
    refine mx_iload_n (pc := 16) 1 (mx_dd dd_X12_functionOf 9 (16, .iload_n 1, 1) rfl) rfl rfl ?_
    refine mx_bipush (pc := 17) (v := (20 : Int32)) (mx_dd dd_X12_functionOf 10 (17, .bipush 20, 2) rfl) (by decide) ?_
    refine mx_iload (pc := 19) 3 (mx_dd dd_X12_functionOf 11 (19, .iload 4, 2) rfl) rfl ?_
    refine mx_iadd (pc := 21) (mx_dd dd_X12_functionOf 12 (21, .iadd, 1) rfl) ?_
    obtain ⟨g3, P⟩ := P
    refine mx_cVL (pc := 22) (Y := mY_X12_nameOf) (As := [.int _, .int _]) mx_ml_X12_423 mx_y_X12_nameOf rfl g3 (by decide) rfl (by decide) rfl (mx_dd dd_X12_functionOf 13 (22, .invokevirtual 423, 3) rfl) g1 (by decide) P (fun v2 h2 P => ?_)
    refine mx_lload_n (pc := 25) 2 (mx_dd dd_X12_functionOf 14 (25, .lload_n 2, 1) rfl) rfl rfl ?_
    refine mx_lcmp (pc := 26) (mx_dd dd_X12_functionOf 15 (26, .lcmp, 1) rfl) ?_
    refine mx_if_ne (pc := 27) 33 (mx_dd dd_X12_functionOf 16 (27, .ifCond .ne 6, 3) rfl) rfl (fun c27 => ?_) (fun c27 => ?_)
    · have P := P.1 c27
      refine mx_iinc (pc := 33) 3 (mx_dd dd_X12_functionOf 19 (33, .iinc 4 1, 3) rfl) rfl (mx_kadd (by decide : Int32.ofInt 1 = (1 : Int32))) (by decide) (lv' := [(4, _), (0, _), (1, _), (2, _)]) rfl ?_
      refine mx_goto (pc := 36) 3 (mx_dd dd_X12_functionOf 20 (36, .goto (-33), 3) rfl) rfl ?_
      refine mx_sel [1, 2, 3, 0] rfl ?_
      exact P
    · have P := P.2 c27
      refine mx_iload (pc := 30) 3 (mx_dd dd_X12_functionOf 17 (30, .iload 4, 2) rfl) rfl ?_
      exact mx_ireturn (pc := 32) (mx_dd dd_X12_functionOf 18 (32, .ireturn, 1) rfl) rfl rfl P
theorem b_X12_reads {d : Nat} {h : mxH} {Q : mxRes → mxH → Prop} (x0 : Nat) (x1 : Int32) (x2 : Int32)
    (P : 1 ≤ d ∧ hpK h x0 = 12 ∧ mx_SM mY_X12_handle (d - 1) [.ref x0, .int x1, .int x2] h (mx_KI (fun v1 h1 => ((¬ v1 = (-1 : Int32) → hpK h1 x0 = 12 ∧ ∃ b1 : Nat, hpR h1 x0 58 = some b1 ∧ hpK h1 b1 = 14 ∧ vp_in v1 (hpZ h1 b1) ∧ (((hpI h1 b1 v1.toNatClampNeg).toInt < 1 ∨ 5 < (hpI h1 b1 v1.toNatClampNeg).toInt → mx_SX mY_X12_reads d 98 [] [] h1 Q) ∧ ((hpI h1 b1 v1.toNatClampNeg).toInt = 1 → mx_SX mY_X12_reads d 62 [(0, .ref x0), (1, .int x1)] [] h1 Q) ∧ ((hpI h1 b1 v1.toNatClampNeg).toInt = 2 → mx_SX mY_X12_reads d 56 [(0, .ref x0), (3, .int v1)] [] h1 Q) ∧ ((hpI h1 b1 v1.toNatClampNeg).toInt = 3 → mx_SX mY_X12_reads d 98 [] [] h1 Q) ∧ ((hpI h1 b1 v1.toNatClampNeg).toInt = 4 → mx_SX mY_X12_reads d 98 [] [] h1 Q) ∧ ((hpI h1 b1 v1.toNatClampNeg).toInt = 5 → mx_SX mY_X12_reads d 68 [(0, .ref x0), (3, .int v1)] [] h1 Q))) ∧ (v1 = (-1 : Int32) → Q (.inl (some (.int (-2 : Int32)))) h1))) (mx_XX mY_X12_reads Q))) : mx_SM mY_X12_reads d [.ref x0, .int x1, .int x2] h Q := by
  refine mx_SM_of (by decide) (Nat.le_of_ble_eq_true rfl) ?_
  show mx_SX mY_X12_reads d 0 [(0, .ref x0), (1, .int x1), (2, .int x2)] [] h Q
  refine mx_aload_n (pc := 0) 0 (mx_dd dd_X12_reads 0 (0, .aload_n 0, 1) rfl) rfl rfl ?_
  refine mx_iload_n (pc := 1) 1 (mx_dd dd_X12_reads 1 (1, .iload_n 1, 1) rfl) rfl rfl ?_
  refine mx_iload_n (pc := 2) 2 (mx_dd dd_X12_reads 2 (2, .iload_n 2, 1) rfl) rfl rfl ?_
  obtain ⟨g1, P⟩ := P
  obtain ⟨g2, P⟩ := P
  refine mx_cVI (pc := 3) (Y := mY_X12_handle) (As := [.int _, .int _]) mx_ml_X12_371 mx_y_X12_handle rfl g2 (by decide) rfl (by decide) rfl (mx_dd dd_X12_reads 3 (3, .invokevirtual 371, 3) rfl) g1 (by decide) P (fun v1 h1 P => ?_)
  refine mx_istore_n (pc := 6) (mx_dd dd_X12_reads 4 (6, .istore_n 3, 1) rfl) rfl (by decide) (lv' := [(3, _), (0, _), (1, _), (2, _)]) rfl ?_
  refine mx_iload_n (pc := 7) 0 (mx_dd dd_X12_reads 5 (7, .iload_n 3, 1) rfl) rfl rfl ?_
  refine mx_iconst (pc := 8) (v := (-1 : Int32)) (mx_dd dd_X12_reads 6 (8, .iconst (-1), 1) rfl) (by decide) ?_
  refine mx_icmp_ne (pc := 9) 15 (mx_dd dd_X12_reads 7 (9, .if_icmp .ne 6, 3) rfl) rfl (fun c9 => ?_) (fun c9 => ?_)
  · have P := P.1 c9
    refine mx_aload_n (pc := 15) 1 (mx_dd dd_X12_reads 10 (15, .aload_n 0, 1) rfl) rfl rfl ?_
    obtain ⟨g3, P⟩ := P
    obtain ⟨b1, g4, P⟩ := P
    refine mx_getR (pc := 16) mx_fl_X12_380 g3 rfl g4 (mx_dd dd_X12_reads 11 (16, .getfield 380, 3) rfl) ?_
    refine mx_iload_n (pc := 19) 0 (mx_dd dd_X12_reads 12 (19, .iload_n 3, 1) rfl) rfl rfl ?_
    obtain ⟨g5, P⟩ := P
    obtain ⟨g6, P⟩ := P
    refine mx_iald (pc := 20) g5 g6 (mx_dd dd_X12_reads 13 (20, .iaload, 1) rfl) ?_
    refine mx_tsw (pc := 21) 98 (mx_dd dd_X12_reads 14 (21, .tableswitch 77 1 5 #[41, 35, 77, 77, 47], 35) rfl) rfl [62, 56, 98, 98, 68] rfl rfl (fun c21 => ?_) ?_
    · have P := P.1 c21
      refine mx_sel [] rfl ?_
      exact P
    · intro j t hj hx
      have hj9 : j < 5 := (List.getElem?_eq_some_iff.mp hj).1
      have hj8 : j = 0 ∨ j = 1 ∨ j = 2 ∨ j = 3 ∨ j = 4 := by omega
      rcases hj8 with rfl | rfl | rfl | rfl | rfl
      · cases hj
        have P := P.2.1 (by omega)
        refine mx_sel [1, 2] rfl ?_
        exact P
      · cases hj
        have P := P.2.2.1 (by omega)
        refine mx_sel [1, 0] rfl ?_
        exact P
      · cases hj
        have P := P.2.2.2.1 (by omega)
        refine mx_sel [] rfl ?_
        exact P
      · cases hj
        have P := P.2.2.2.2.1 (by omega)
        refine mx_sel [] rfl ?_
        exact P
      · cases hj
        have P := P.2.2.2.2.2 (by omega)
        refine mx_sel [1, 0] rfl ?_
        exact P
  · have P := P.2 c9
    refine mx_bipush (pc := 12) (v := (-2 : Int32)) (mx_dd dd_X12_reads 8 (12, .bipush (-2), 2) rfl) (by decide) ?_
    exact mx_ireturn (pc := 14) (mx_dd dd_X12_reads 9 (14, .ireturn, 1) rfl) rfl rfl P
theorem b_X12_reads_56 {d : Nat} {h : mxH} {Q : mxRes → mxH → Prop} (x0 : Nat) (x3 : Int32)
    (P : 1 ≤ d ∧ hpK h x0 = 12 ∧ mx_SM mY_X12_readsFile (d - 1) [.ref x0, .int x3] h (mx_KI (fun v1 h1 => Q (.inl (some (.int v1))) h1) (mx_XX mY_X12_reads Q))) : mx_SX mY_X12_reads d 56 [(0, .ref x0), (3, .int x3)] [] h Q := by
  refine mx_aload_n (pc := 56) 0 (mx_dd dd_X12_reads 15 (56, .aload_n 0, 1) rfl) rfl rfl ?_
  refine mx_iload_n (pc := 57) 1 (mx_dd dd_X12_reads 16 (57, .iload_n 3, 1) rfl) rfl rfl ?_
  obtain ⟨g1, P⟩ := P
  obtain ⟨g2, P⟩ := P
  refine mx_cVI (pc := 58) (Y := mY_X12_readsFile) (As := [.int _]) mx_ml_X12_437 mx_y_X12_readsFile rfl g2 (by decide) rfl (by decide) rfl (mx_dd dd_X12_reads 17 (58, .invokevirtual 437, 3) rfl) g1 (by decide) P (fun v1 h1 P => ?_)
  exact mx_ireturn (pc := 61) (mx_dd dd_X12_reads 18 (61, .ireturn, 1) rfl) rfl rfl P
theorem b_X12_reads_62 {d : Nat} {h : mxH} {Q : mxRes → mxH → Prop} (x0 : Nat) (x1 : Int32)
    (P : 1 ≤ d ∧ hpK h x0 = 12 ∧ mx_SM mY_X12_readsTerminal (d - 1) [.ref x0, .int x1] h (mx_KI (fun v1 h1 => Q (.inl (some (.int v1))) h1) (mx_XX mY_X12_reads Q))) : mx_SX mY_X12_reads d 62 [(0, .ref x0), (1, .int x1)] [] h Q := by
  refine mx_aload_n (pc := 62) 0 (mx_dd dd_X12_reads 19 (62, .aload_n 0, 1) rfl) rfl rfl ?_
  refine mx_iload_n (pc := 63) 1 (mx_dd dd_X12_reads 20 (63, .iload_n 1, 1) rfl) rfl rfl ?_
  obtain ⟨g1, P⟩ := P
  obtain ⟨g2, P⟩ := P
  refine mx_cVI (pc := 64) (Y := mY_X12_readsTerminal) (As := [.int _]) mx_ml_X12_440 mx_y_X12_readsTerminal rfl g2 (by decide) rfl (by decide) rfl (mx_dd dd_X12_reads 21 (64, .invokevirtual 440, 3) rfl) g1 (by decide) P (fun v1 h1 P => ?_)
  exact mx_ireturn (pc := 67) (mx_dd dd_X12_reads 22 (67, .ireturn, 1) rfl) rfl rfl P
theorem b_X12_reads_68 {d : Nat} {h : mxH} {Q : mxRes → mxH → Prop} (x0 : Nat) (x3 : Int32)
    (P : hpK h x0 = 12 ∧ ∃ b1 : Nat, hpR h x0 61 = some b1 ∧ ∃ b2 : Nat, hpR h x0 59 = some b2 ∧ hpK h b2 = 14 ∧ vp_in x3 (hpZ h b2) ∧ hpK h b1 = 14 ∧ vp_in (hpI h b2 x3.toNatClampNeg) (hpZ h b1) ∧ ((¬ (hpI h b1 (hpI h b2 x3.toNatClampNeg).toNatClampNeg) = (-1 : Int32) → 1 ≤ d ∧ mx_SM mY_X12_takesFirst (d - 1) [.ref x0, .int (hpI h b2 x3.toNatClampNeg)] h (mx_KI (fun v1 h1 => Q (.inl (some (.int v1))) h1) (mx_XX mY_X12_reads Q))) ∧ ((hpI h b1 (hpI h b2 x3.toNatClampNeg).toNatClampNeg) = (-1 : Int32) → Q (.inl (some (.int (-1 : Int32)))) h))) : mx_SX mY_X12_reads d 68 [(0, .ref x0), (3, .int x3)] [] h Q := by
  refine mx_aload_n (pc := 68) 0 (mx_dd dd_X12_reads 23 (68, .aload_n 0, 1) rfl) rfl rfl ?_
  obtain ⟨g1, P⟩ := P
  obtain ⟨b1, g2, P⟩ := P
  refine mx_getR (pc := 69) mx_fl_X12_325 g1 rfl g2 (mx_dd dd_X12_reads 24 (69, .getfield 325, 3) rfl) ?_
  refine mx_aload_n (pc := 72) 0 (mx_dd dd_X12_reads 25 (72, .aload_n 0, 1) rfl) rfl rfl ?_
  obtain ⟨b2, g3, P⟩ := P
  refine mx_getR (pc := 73) mx_fl_X12_389 g1 rfl g3 (mx_dd dd_X12_reads 26 (73, .getfield 389, 3) rfl) ?_
  refine mx_iload_n (pc := 76) 1 (mx_dd dd_X12_reads 27 (76, .iload_n 3, 1) rfl) rfl rfl ?_
  obtain ⟨g4, P⟩ := P
  obtain ⟨g5, P⟩ := P
  refine mx_iald (pc := 77) g4 g5 (mx_dd dd_X12_reads 28 (77, .iaload, 1) rfl) ?_
  obtain ⟨g6, P⟩ := P
  obtain ⟨g7, P⟩ := P
  refine mx_iald (pc := 78) g6 g7 (mx_dd dd_X12_reads 29 (78, .iaload, 1) rfl) ?_
  refine mx_iconst (pc := 79) (v := (-1 : Int32)) (mx_dd dd_X12_reads 30 (79, .iconst (-1), 1) rfl) (by decide) ?_
  refine mx_icmp_ne (pc := 80) 87 (mx_dd dd_X12_reads 31 (80, .if_icmp .ne 7, 3) rfl) rfl (fun c80 => ?_) (fun c80 => ?_)
  · have P := P.1 c80
    refine mx_aload_n (pc := 87) 0 (mx_dd dd_X12_reads 34 (87, .aload_n 0, 1) rfl) rfl rfl ?_
    refine mx_aload_n (pc := 88) 0 (mx_dd dd_X12_reads 35 (88, .aload_n 0, 1) rfl) rfl rfl ?_
    refine mx_getR (pc := 89) mx_fl_X12_389 g1 rfl g3 (mx_dd dd_X12_reads 36 (89, .getfield 389, 3) rfl) ?_
    refine mx_iload_n (pc := 92) 1 (mx_dd dd_X12_reads 37 (92, .iload_n 3, 1) rfl) rfl rfl ?_
    refine mx_iald (pc := 93) g4 g5 (mx_dd dd_X12_reads 38 (93, .iaload, 1) rfl) ?_
    obtain ⟨g8, P⟩ := P
    refine mx_cVI (pc := 94) (Y := mY_X12_takesFirst) (As := [.int _]) mx_ml_X12_404 mx_y_X12_takesFirst rfl g1 (by decide) rfl (by decide) rfl (mx_dd dd_X12_reads 39 (94, .invokevirtual 404, 3) rfl) g8 (by decide) P (fun v1 h1 P => ?_)
    exact mx_ireturn (pc := 97) (mx_dd dd_X12_reads 40 (97, .ireturn, 1) rfl) rfl rfl P
  · have P := P.2 c80
    refine mx_iconst (pc := 83) (v := (-1 : Int32)) (mx_dd dd_X12_reads 32 (83, .iconst (-1), 1) rfl) (by decide) ?_
    refine mx_goto (pc := 84) 97 (mx_dd dd_X12_reads 33 (84, .goto 13, 3) rfl) rfl ?_
    exact mx_ireturn (pc := 97) (mx_dd dd_X12_reads 40 (97, .ireturn, 1) rfl) rfl rfl P
theorem b_X12_reads_98 {d : Nat} {h : mxH} {Q : mxRes → mxH → Prop} 
    (P : Q (.inl (some (.int (-2 : Int32)))) h) : mx_SX mY_X12_reads d 98 [] [] h Q := by
  refine mx_bipush (pc := 98) (v := (-2 : Int32)) (mx_dd dd_X12_reads 41 (98, .bipush (-2), 2) rfl) (by decide) ?_
  exact mx_ireturn (pc := 100) (mx_dd dd_X12_reads 42 (100, .ireturn, 1) rfl) rfl rfl P
theorem b_X12_readsFile {d : Nat} {h : mxH} {Q : mxRes → mxH → Prop} (x0 : Nat) (x1 : Int32)
    (P : hpK h x0 = 12 ∧ ∃ b1 : Nat, hpR h x0 59 = some b1 ∧ hpK h b1 = 14 ∧ vp_in x1 (hpZ h b1) ∧ ∃ b2 : Nat, hpR h x0 60 = some b2 ∧ hpK h b2 = 14 ∧ vp_in x1 (hpZ h b2) ∧ 1 ≤ d ∧ mx_SM mY_X12_linesOf (d - 1) [.ref x0, .int (hpI h b1 x1.toNatClampNeg)] h (mx_KI (fun v1 h1 => (((hpI h b2 x1.toNatClampNeg) < v1 → hpK h1 x0 = 12 ∧ ∃ b3 : Nat, hpR h1 x0 60 = some b3 ∧ hpK h1 b3 = 14 ∧ vp_in x1 (hpZ h1 b3) ∧ ∀ h2 : mxH, h2 = hsI h1 b3 x1.toNatClampNeg ((hpI h1 b3 x1.toNatClampNeg) + (1 : Int32)) → ∃ b4 : Nat, hpR h2 x0 60 = some b4 ∧ hpK h2 b4 = 14 ∧ vp_in x1 (hpZ h2 b4) ∧ mx_SM mY_X12_lineIn (d - 1) [.ref x0, .int (hpI h b1 x1.toNatClampNeg), .int ((hpI h2 b4 x1.toNatClampNeg) - (1 : Int32))] h2 (mx_KI (fun v2 h3 => Q (.inl (some (.int v2))) h3) (mx_XX mY_X12_readsFile Q))) ∧ (¬ (hpI h b2 x1.toNatClampNeg) < v1 → Q (.inl (some (.int (-1 : Int32)))) h1))) (mx_XX mY_X12_readsFile Q))) : mx_SM mY_X12_readsFile d [.ref x0, .int x1] h Q := by
  refine mx_SM_of (by decide) (Nat.le_of_ble_eq_true rfl) ?_
  show mx_SX mY_X12_readsFile d 0 [(0, .ref x0), (1, .int x1)] [] h Q
  refine mx_aload_n (pc := 0) 0 (mx_dd dd_X12_readsFile 0 (0, .aload_n 0, 1) rfl) rfl rfl ?_
  obtain ⟨g1, P⟩ := P
  obtain ⟨b1, g2, P⟩ := P
  refine mx_getR (pc := 1) mx_fl_X12_389 g1 rfl g2 (mx_dd dd_X12_readsFile 1 (1, .getfield 389, 3) rfl) ?_
  refine mx_iload_n (pc := 4) 1 (mx_dd dd_X12_readsFile 2 (4, .iload_n 1, 1) rfl) rfl rfl ?_
  obtain ⟨g3, P⟩ := P
  obtain ⟨g4, P⟩ := P
  refine mx_iald (pc := 5) g3 g4 (mx_dd dd_X12_readsFile 3 (5, .iaload, 1) rfl) ?_
  refine mx_istore_n (pc := 6) (mx_dd dd_X12_readsFile 4 (6, .istore_n 2, 1) rfl) rfl (by decide) (lv' := [(2, _), (0, _), (1, _)]) rfl ?_
  refine mx_aload_n (pc := 7) 1 (mx_dd dd_X12_readsFile 5 (7, .aload_n 0, 1) rfl) rfl rfl ?_
  obtain ⟨b2, g5, P⟩ := P
  refine mx_getR (pc := 8) mx_fl_X12_392 g1 rfl g5 (mx_dd dd_X12_readsFile 6 (8, .getfield 392, 3) rfl) ?_
  refine mx_iload_n (pc := 11) 2 (mx_dd dd_X12_readsFile 7 (11, .iload_n 1, 1) rfl) rfl rfl ?_
  obtain ⟨g6, P⟩ := P
  obtain ⟨g7, P⟩ := P
  refine mx_iald (pc := 12) g6 g7 (mx_dd dd_X12_readsFile 8 (12, .iaload, 1) rfl) ?_
  refine mx_aload_n (pc := 13) 1 (mx_dd dd_X12_readsFile 9 (13, .aload_n 0, 1) rfl) rfl rfl ?_
  refine mx_iload_n (pc := 14) 0 (mx_dd dd_X12_readsFile 10 (14, .iload_n 2, 1) rfl) rfl rfl ?_
  obtain ⟨g8, P⟩ := P
  refine mx_cVI (pc := 15) (Y := mY_X12_linesOf) (As := [.int _]) mx_ml_X12_443 mx_y_X12_linesOf rfl g1 (by decide) rfl (by simp [Value.category]) rfl (mx_dd dd_X12_readsFile 11 (15, .invokevirtual 443, 3) rfl) g8 (by decide) P (fun v1 h1 P => ?_)
  refine mx_icmp_lt (pc := 18) 23 (mx_dd dd_X12_readsFile 12 (18, .if_icmp .lt 5, 3) rfl) rfl (fun c18 => ?_) (fun c18 => ?_)
  · have P := P.1 c18
    refine mx_aload_n (pc := 23) 1 (mx_dd dd_X12_readsFile 15 (23, .aload_n 0, 1) rfl) rfl rfl ?_
    obtain ⟨g9, P⟩ := P
    obtain ⟨b3, g10, P⟩ := P
    refine mx_getR (pc := 24) mx_fl_X12_392 g9 rfl g10 (mx_dd dd_X12_readsFile 16 (24, .getfield 392, 3) rfl) ?_
    refine mx_iload_n (pc := 27) 2 (mx_dd dd_X12_readsFile 17 (27, .iload_n 1, 1) rfl) rfl rfl ?_
    refine mx_dup2 (pc := 28) (mx_dd dd_X12_readsFile 18 (28, .dup2, 1) rfl) rfl rfl ?_
    obtain ⟨g11, P⟩ := P
    obtain ⟨g12, P⟩ := P
    refine mx_iald (pc := 29) g11 g12 (mx_dd dd_X12_readsFile 19 (29, .iaload, 1) rfl) ?_
    refine mx_iconst (pc := 30) (v := (1 : Int32)) (mx_dd dd_X12_readsFile 20 (30, .iconst 1, 1) rfl) (by decide) ?_
    refine mx_iadd (pc := 31) (mx_dd dd_X12_readsFile 21 (31, .iadd, 1) rfl) ?_
    refine mx_iast (pc := 32) g11 g12 (mx_dd dd_X12_readsFile 22 (32, .iastore, 1) rfl) ?_
    have P := P _ rfl
    refine mx_aload_n (pc := 33) 1 (mx_dd dd_X12_readsFile 23 (33, .aload_n 0, 1) rfl) rfl rfl ?_
    refine mx_iload_n (pc := 34) 0 (mx_dd dd_X12_readsFile 24 (34, .iload_n 2, 1) rfl) rfl rfl ?_
    refine mx_aload_n (pc := 35) 1 (mx_dd dd_X12_readsFile 25 (35, .aload_n 0, 1) rfl) rfl rfl ?_
    obtain ⟨b4, g13, P⟩ := P
    refine mx_getR (pc := 36) mx_fl_X12_392 g9 rfl g13 (mx_dd dd_X12_readsFile 26 (36, .getfield 392, 3) rfl) ?_
    refine mx_iload_n (pc := 39) 2 (mx_dd dd_X12_readsFile 27 (39, .iload_n 1, 1) rfl) rfl rfl ?_
    obtain ⟨g14, P⟩ := P
    obtain ⟨g15, P⟩ := P
    refine mx_iald (pc := 40) g14 g15 (mx_dd dd_X12_readsFile 28 (40, .iaload, 1) rfl) ?_
    refine mx_iconst (pc := 41) (v := (1 : Int32)) (mx_dd dd_X12_readsFile 29 (41, .iconst 1, 1) rfl) (by decide) ?_
    refine mx_isub (pc := 42) (mx_dd dd_X12_readsFile 30 (42, .isub, 1) rfl) ?_
    refine mx_cVI (pc := 43) (Y := mY_X12_lineIn) (As := [.int _, .int _]) mx_ml_X12_446 mx_y_X12_lineIn rfl g9 (by decide) rfl (by decide) rfl (mx_dd dd_X12_readsFile 31 (43, .invokevirtual 446, 3) rfl) g8 (by decide) P (fun v2 h3 P => ?_)
    exact mx_ireturn (pc := 46) (mx_dd dd_X12_readsFile 32 (46, .ireturn, 1) rfl) rfl rfl P
  · have P := P.2 c18
    refine mx_iconst (pc := 21) (v := (-1 : Int32)) (mx_dd dd_X12_readsFile 13 (21, .iconst (-1), 1) rfl) (by decide) ?_
    exact mx_ireturn (pc := 22) (mx_dd dd_X12_readsFile 14 (22, .ireturn, 1) rfl) rfl rfl P
theorem b_X12_readsTerminal {d : Nat} {h : mxH} {Q : mxRes → mxH → Prop} (x0 : Nat) (x1 : Int32)
    (P : 1 ≤ d ∧ hpK h x0 = 12 ∧ mx_SM mY_X12_of (d - 1) [.ref x0, .int x1, .int (35 : Int32)] h (mx_KI (fun v1 h1 => ((¬ v1 = (1 : Int32) → hpK h1 x0 = 12 ∧ ∃ b1 : Nat, hpR h1 x0 56 = some b1 ∧ hpK h1 b1 = 14 ∧ vp_in (329 : Int32) (hpZ h1 b1) ∧ ((¬ (hpI h1 b1 (329 : Int32).toNatClampNeg) = 0 → vp_in (330 : Int32) (hpZ h1 b1) ∧ mx_SX mY_X12_readsTerminal d 46 [(0, .ref x0), (2, .int (hpI h1 b1 (330 : Int32).toNatClampNeg)), (3, .int (1 : Int32))] [] h1 Q) ∧ ((hpI h1 b1 (329 : Int32).toNatClampNeg) = 0 → Q (.inl (some (.int (-1 : Int32)))) h1))) ∧ (v1 = (1 : Int32) → hpK h1 x0 = 12 ∧ mx_SM mY_X12_ends (d - 1) [.ref x0, .int x1, .int (149 : Int32)] h1 (mx_KV (fun h2 => Q (.inl (some (.int (-2 : Int32)))) h2) (mx_XX mY_X12_readsTerminal Q))))) (mx_XX mY_X12_readsTerminal Q))) : mx_SM mY_X12_readsTerminal d [.ref x0, .int x1] h Q := by
  refine mx_SM_of (by decide) (Nat.le_of_ble_eq_true rfl) ?_
  show mx_SX mY_X12_readsTerminal d 0 [(0, .ref x0), (1, .int x1)] [] h Q
  refine mx_aload_n (pc := 0) 0 (mx_dd dd_X12_readsTerminal 0 (0, .aload_n 0, 1) rfl) rfl rfl ?_
  refine mx_iload_n (pc := 1) 1 (mx_dd dd_X12_readsTerminal 1 (1, .iload_n 1, 1) rfl) rfl rfl ?_
  refine mx_bipush (pc := 2) (v := (35 : Int32)) (mx_dd dd_X12_readsTerminal 2 (2, .bipush 35, 2) rfl) (by decide) ?_
  obtain ⟨g1, P⟩ := P
  obtain ⟨g2, P⟩ := P
  refine mx_cVI (pc := 4) (Y := mY_X12_of) (As := [.int _, .int _]) mx_ml_X12_416 mx_y_X12_of rfl g2 (by decide) rfl (by decide) rfl (mx_dd dd_X12_readsTerminal 3 (4, .invokevirtual 416, 3) rfl) g1 (by decide) P (fun v1 h1 P => ?_)
  refine mx_iconst (pc := 7) (v := (1 : Int32)) (mx_dd dd_X12_readsTerminal 4 (7, .iconst 1, 1) rfl) (by decide) ?_
  refine mx_icmp_ne (pc := 8) 22 (mx_dd dd_X12_readsTerminal 5 (8, .if_icmp .ne 14, 3) rfl) rfl (fun c8 => ?_) (fun c8 => ?_)
  · have P := P.1 c8
    refine mx_aload_n (pc := 22) 0 (mx_dd dd_X12_readsTerminal 12 (22, .aload_n 0, 1) rfl) rfl rfl ?_
    obtain ⟨g3, P⟩ := P
    obtain ⟨b1, g4, P⟩ := P
    refine mx_getR (pc := 23) mx_fl_X12_312 g3 rfl g4 (mx_dd dd_X12_readsTerminal 13 (23, .getfield 312, 3) rfl) ?_
    refine mx_sipush (pc := 26) (v := (329 : Int32)) (mx_dd dd_X12_readsTerminal 14 (26, .sipush 329, 3) rfl) (by decide) ?_
    obtain ⟨g5, P⟩ := P
    obtain ⟨g6, P⟩ := P
    refine mx_iald (pc := 29) g5 g6 (mx_dd dd_X12_readsTerminal 15 (29, .iaload, 1) rfl) ?_
    refine mx_if_ne (pc := 30) 35 (mx_dd dd_X12_readsTerminal 16 (30, .ifCond .ne 5, 3) rfl) rfl (fun c30 => ?_) (fun c30 => ?_)
    · have P := P.1 c30
      refine mx_aload_n (pc := 35) 0 (mx_dd dd_X12_readsTerminal 19 (35, .aload_n 0, 1) rfl) rfl rfl ?_
      refine mx_getR (pc := 36) mx_fl_X12_312 g3 rfl g4 (mx_dd dd_X12_readsTerminal 20 (36, .getfield 312, 3) rfl) ?_
      refine mx_sipush (pc := 39) (v := (330 : Int32)) (mx_dd dd_X12_readsTerminal 21 (39, .sipush 330, 3) rfl) (by decide) ?_
      obtain ⟨g7, P⟩ := P
      refine mx_iald (pc := 42) g5 g7 (mx_dd dd_X12_readsTerminal 22 (42, .iaload, 1) rfl) ?_
      refine mx_istore_n (pc := 43) (mx_dd dd_X12_readsTerminal 23 (43, .istore_n 2, 1) rfl) rfl (by decide) (lv' := [(2, _), (0, _), (1, _)]) rfl ?_
      refine mx_iconst (pc := 44) (v := (1 : Int32)) (mx_dd dd_X12_readsTerminal 24 (44, .iconst 1, 1) rfl) (by decide) ?_
      refine mx_istore_n (pc := 45) (mx_dd dd_X12_readsTerminal 25 (45, .istore_n 3, 1) rfl) rfl (by decide) (lv' := [(3, _), (2, _), (0, _), (1, _)]) rfl ?_
      refine mx_sel [2, 1, 0] rfl ?_
      exact P
    · have P := P.2 c30
      refine mx_iconst (pc := 33) (v := (-1 : Int32)) (mx_dd dd_X12_readsTerminal 17 (33, .iconst (-1), 1) rfl) (by decide) ?_
      exact mx_ireturn (pc := 34) (mx_dd dd_X12_readsTerminal 18 (34, .ireturn, 1) rfl) rfl rfl P
  · have P := P.2 c8
    refine mx_aload_n (pc := 11) 0 (mx_dd dd_X12_readsTerminal 6 (11, .aload_n 0, 1) rfl) rfl rfl ?_
    refine mx_iload_n (pc := 12) 1 (mx_dd dd_X12_readsTerminal 7 (12, .iload_n 1, 1) rfl) rfl rfl ?_
    refine mx_sipush (pc := 13) (v := (149 : Int32)) (mx_dd dd_X12_readsTerminal 8 (13, .sipush 149, 3) rfl) (by decide) ?_
    obtain ⟨g8, P⟩ := P
    refine mx_cVV (pc := 16) (Y := mY_X12_ends) (As := [.int _, .int _]) mx_ml_X12_449 mx_y_X12_ends rfl g8 (by decide) rfl (by decide) rfl (mx_dd dd_X12_readsTerminal 9 (16, .invokevirtual 449, 3) rfl) g1 (by decide) P (fun h2 P => ?_)
    refine mx_bipush (pc := 19) (v := (-2 : Int32)) (mx_dd dd_X12_readsTerminal 10 (19, .bipush (-2), 2) rfl) (by decide) ?_
    exact mx_ireturn (pc := 21) (mx_dd dd_X12_readsTerminal 11 (21, .ireturn, 1) rfl) rfl rfl P
theorem b_X12_readsTerminal_46 {d : Nat} {h : mxH} {Q : mxRes → mxH → Prop} (x0 : Nat) (x2 : Int32) (x3 : Int32)
    (P : hpK h x0 = 12 ∧ ∃ b1 : Nat, hpR h x0 56 = some b1 ∧ hpK h b1 = 14 ∧ vp_in (329 : Int32) (hpZ h b1) ∧ (((hpI h b1 (329 : Int32).toNatClampNeg) ≤ x3 → ∀ h1 : mxH, h1 = hsI h b1 (329 : Int32).toNatClampNeg ((hpI h b1 (329 : Int32).toNatClampNeg) - (1 : Int32)) → Q (.inl (some (.int x2))) h1) ∧ (¬ (hpI h b1 (329 : Int32).toNatClampNeg) ≤ x3 → vp_in (((329 : Int32) + x3) + (1 : Int32)) (hpZ h b1) ∧ vp_in ((329 : Int32) + x3) (hpZ h b1) ∧ ∀ h2 : mxH, h2 = hsI h b1 ((329 : Int32) + x3).toNatClampNeg (hpI h b1 (((329 : Int32) + x3) + (1 : Int32)).toNatClampNeg) → mx_SX mY_X12_readsTerminal d 46 [(0, .ref x0), (2, .int x2), (3, .int (x3 + (1 : Int32)))] [] h2 Q))) : mx_SX mY_X12_readsTerminal d 46 [(0, .ref x0), (2, .int x2), (3, .int x3)] [] h Q := by
  refine mx_iload_n (pc := 46) 2 (mx_dd dd_X12_readsTerminal 26 (46, .iload_n 3, 1) rfl) rfl rfl ?_
  refine mx_aload_n (pc := 47) 0 (mx_dd dd_X12_readsTerminal 27 (47, .aload_n 0, 1) rfl) rfl rfl ?_
  obtain ⟨g1, P⟩ := P
  obtain ⟨b1, g2, P⟩ := P
  refine mx_getR (pc := 48) mx_fl_X12_312 g1 rfl g2 (mx_dd dd_X12_readsTerminal 28 (48, .getfield 312, 3) rfl) ?_
  refine mx_sipush (pc := 51) (v := (329 : Int32)) (mx_dd dd_X12_readsTerminal 29 (51, .sipush 329, 3) rfl) (by decide) ?_
  obtain ⟨g3, P⟩ := P
  obtain ⟨g4, P⟩ := P
  refine mx_iald (pc := 54) g3 g4 (mx_dd dd_X12_readsTerminal 30 (54, .iaload, 1) rfl) ?_
  refine mx_icmp_ge (pc := 55) 86 (mx_dd dd_X12_readsTerminal 31 (55, .if_icmp .ge 31, 3) rfl) rfl (fun c55 => ?_) (fun c55 => ?_)
  · have P := P.1 c55
    refine mx_aload_n (pc := 86) 0 (mx_dd dd_X12_readsTerminal 48 (86, .aload_n 0, 1) rfl) rfl rfl ?_
    refine mx_getR (pc := 87) mx_fl_X12_312 g1 rfl g2 (mx_dd dd_X12_readsTerminal 49 (87, .getfield 312, 3) rfl) ?_
    refine mx_sipush (pc := 90) (v := (329 : Int32)) (mx_dd dd_X12_readsTerminal 50 (90, .sipush 329, 3) rfl) (by decide) ?_
    refine mx_dup2 (pc := 93) (mx_dd dd_X12_readsTerminal 51 (93, .dup2, 1) rfl) rfl rfl ?_
    refine mx_iald (pc := 94) g3 g4 (mx_dd dd_X12_readsTerminal 52 (94, .iaload, 1) rfl) ?_
    refine mx_iconst (pc := 95) (v := (1 : Int32)) (mx_dd dd_X12_readsTerminal 53 (95, .iconst 1, 1) rfl) (by decide) ?_
    refine mx_isub (pc := 96) (mx_dd dd_X12_readsTerminal 54 (96, .isub, 1) rfl) ?_
    refine mx_iast (pc := 97) g3 g4 (mx_dd dd_X12_readsTerminal 55 (97, .iastore, 1) rfl) ?_
    have P := P _ rfl
    refine mx_iload_n (pc := 98) 1 (mx_dd dd_X12_readsTerminal 56 (98, .iload_n 2, 1) rfl) rfl rfl ?_
    exact mx_ireturn (pc := 99) (mx_dd dd_X12_readsTerminal 57 (99, .ireturn, 1) rfl) rfl rfl P
  · have P := P.2 c55
    refine mx_aload_n (pc := 58) 0 (mx_dd dd_X12_readsTerminal 32 (58, .aload_n 0, 1) rfl) rfl rfl ?_
    refine mx_getR (pc := 59) mx_fl_X12_312 g1 rfl g2 (mx_dd dd_X12_readsTerminal 33 (59, .getfield 312, 3) rfl) ?_
    refine mx_sipush (pc := 62) (v := (329 : Int32)) (mx_dd dd_X12_readsTerminal 34 (62, .sipush 329, 3) rfl) (by decide) ?_
    refine mx_iload_n (pc := 65) 2 (mx_dd dd_X12_readsTerminal 35 (65, .iload_n 3, 1) rfl) rfl rfl ?_
    refine mx_iadd (pc := 66) (mx_dd dd_X12_readsTerminal 36 (66, .iadd, 1) rfl) ?_
    refine mx_aload_n (pc := 67) 0 (mx_dd dd_X12_readsTerminal 37 (67, .aload_n 0, 1) rfl) rfl rfl ?_
    refine mx_getR (pc := 68) mx_fl_X12_312 g1 rfl g2 (mx_dd dd_X12_readsTerminal 38 (68, .getfield 312, 3) rfl) ?_
    refine mx_sipush (pc := 71) (v := (329 : Int32)) (mx_dd dd_X12_readsTerminal 39 (71, .sipush 329, 3) rfl) (by decide) ?_
    refine mx_iload_n (pc := 74) 2 (mx_dd dd_X12_readsTerminal 40 (74, .iload_n 3, 1) rfl) rfl rfl ?_
    refine mx_iadd (pc := 75) (mx_dd dd_X12_readsTerminal 41 (75, .iadd, 1) rfl) ?_
    refine mx_iconst (pc := 76) (v := (1 : Int32)) (mx_dd dd_X12_readsTerminal 42 (76, .iconst 1, 1) rfl) (by decide) ?_
    refine mx_iadd (pc := 77) (mx_dd dd_X12_readsTerminal 43 (77, .iadd, 1) rfl) ?_
    obtain ⟨g5, P⟩ := P
    refine mx_iald (pc := 78) g3 g5 (mx_dd dd_X12_readsTerminal 44 (78, .iaload, 1) rfl) ?_
    obtain ⟨g6, P⟩ := P
    refine mx_iast (pc := 79) g3 g6 (mx_dd dd_X12_readsTerminal 45 (79, .iastore, 1) rfl) ?_
    have P := P _ rfl
    refine mx_iinc (pc := 80) 2 (mx_dd dd_X12_readsTerminal 46 (80, .iinc 3 1, 3) rfl) rfl (mx_kadd (by decide : Int32.ofInt 1 = (1 : Int32))) (by decide) (lv' := [(3, _), (0, _), (2, _)]) rfl ?_
    refine mx_goto (pc := 83) 46 (mx_dd dd_X12_readsTerminal 47 (83, .goto (-37), 3) rfl) rfl ?_
    refine mx_sel [1, 2, 0] rfl ?_
    exact P
theorem b_X12_writes {d : Nat} {h : mxH} {Q : mxRes → mxH → Prop} (x0 : Nat) (x1 : Int32) (x2 : Int32) (x3 : Int32)
    (P : 1 ≤ d ∧ hpK h x0 = 12 ∧ mx_SM mY_X12_handle (d - 1) [.ref x0, .int x1, .int x2] h (mx_KI (fun v1 h1 => ((¬ v1 = (-1 : Int32) → hpK h1 x0 = 12 ∧ ∃ b1 : Nat, hpR h1 x0 58 = some b1 ∧ hpK h1 b1 = 14 ∧ vp_in v1 (hpZ h1 b1) ∧ (((hpI h1 b1 v1.toNatClampNeg).toInt < 1 ∨ 6 < (hpI h1 b1 v1.toNatClampNeg).toInt → mx_SX mY_X12_writes d 142 [] [] h1 Q) ∧ ((hpI h1 b1 v1.toNatClampNeg).toInt = 1 → mx_SX mY_X12_writes d 60 [(0, .ref x0), (3, .int x3)] [] h1 Q) ∧ ((hpI h1 b1 v1.toNatClampNeg).toInt = 2 → mx_SX mY_X12_writes d 142 [] [] h1 Q) ∧ ((hpI h1 b1 v1.toNatClampNeg).toInt = 3 → mx_SX mY_X12_writes d 107 [(0, .ref x0), (3, .int x3), (4, .int v1)] [] h1 Q) ∧ ((hpI h1 b1 v1.toNatClampNeg).toInt = 4 → mx_SX mY_X12_writes d 115 [(0, .ref x0), (3, .int x3), (4, .int v1)] [] h1 Q) ∧ ((hpI h1 b1 v1.toNatClampNeg).toInt = 5 → mx_SX mY_X12_writes d 142 [] [] h1 Q) ∧ ((hpI h1 b1 v1.toNatClampNeg).toInt = 6 → mx_SX mY_X12_writes d 128 [(0, .ref x0), (3, .int x3), (4, .int v1)] [] h1 Q))) ∧ (v1 = (-1 : Int32) → Q (.inl (some (.int (0 : Int32)))) h1))) (mx_XX mY_X12_writes Q))) : mx_SM mY_X12_writes d [.ref x0, .int x1, .int x2, .int x3] h Q := by
  refine mx_SM_of (by decide) (Nat.le_of_ble_eq_true rfl) ?_
  show mx_SX mY_X12_writes d 0 [(0, .ref x0), (1, .int x1), (2, .int x2), (3, .int x3)] [] h Q
  refine mx_aload_n (pc := 0) 0 (mx_dd dd_X12_writes_0 0 (0, .aload_n 0, 1) rfl) rfl rfl ?_
  refine mx_iload_n (pc := 1) 1 (mx_dd dd_X12_writes_0 1 (1, .iload_n 1, 1) rfl) rfl rfl ?_
  refine mx_iload_n (pc := 2) 2 (mx_dd dd_X12_writes_0 2 (2, .iload_n 2, 1) rfl) rfl rfl ?_
  obtain ⟨g1, P⟩ := P
  obtain ⟨g2, P⟩ := P
  refine mx_cVI (pc := 3) (Y := mY_X12_handle) (As := [.int _, .int _]) mx_ml_X12_371 mx_y_X12_handle rfl g2 (by decide) rfl (by decide) rfl (mx_dd dd_X12_writes_0 3 (3, .invokevirtual 371, 3) rfl) g1 (by decide) P (fun v1 h1 P => ?_)
  refine mx_istore (pc := 6) (mx_dd dd_X12_writes_0 4 (6, .istore 4, 2) rfl) (by decide) (lv' := [(4, _), (0, _), (1, _), (2, _), (3, _)]) rfl ?_
  refine mx_iload (pc := 8) 0 (mx_dd dd_X12_writes_0 5 (8, .iload 4, 2) rfl) rfl ?_
  refine mx_iconst (pc := 10) (v := (-1 : Int32)) (mx_dd dd_X12_writes_0 6 (10, .iconst (-1), 1) rfl) (by decide) ?_
  refine mx_icmp_ne (pc := 11) 16 (mx_dd dd_X12_writes_0 7 (11, .if_icmp .ne 5, 3) rfl) rfl (fun c11 => ?_) (fun c11 => ?_)
  · have P := P.1 c11
    refine mx_aload_n (pc := 16) 1 (mx_dd dd_X12_writes_0 10 (16, .aload_n 0, 1) rfl) rfl rfl ?_
    obtain ⟨g3, P⟩ := P
    obtain ⟨b1, g4, P⟩ := P
    refine mx_getR (pc := 17) mx_fl_X12_380 g3 rfl g4 (mx_dd dd_X12_writes_0 11 (17, .getfield 380, 3) rfl) ?_
    refine mx_iload (pc := 20) 0 (mx_dd dd_X12_writes_0 12 (20, .iload 4, 2) rfl) rfl ?_
    obtain ⟨g5, P⟩ := P
    obtain ⟨g6, P⟩ := P
    refine mx_iald (pc := 22) g5 g6 (mx_dd dd_X12_writes_0 13 (22, .iaload, 1) rfl) ?_
    refine mx_tsw (pc := 23) 142 (mx_dd dd_X12_writes_0 14 (23, .tableswitch 119 1 6 #[37, 119, 84, 92, 119, 105], 37) rfl) rfl [60, 142, 107, 115, 142, 128] rfl rfl (fun c23 => ?_) ?_
    · have P := P.1 c23
      refine mx_sel [] rfl ?_
      exact P
    · intro j t hj hx
      have hj9 : j < 6 := (List.getElem?_eq_some_iff.mp hj).1
      have hj8 : j = 0 ∨ j = 1 ∨ j = 2 ∨ j = 3 ∨ j = 4 ∨ j = 5 := by omega
      rcases hj8 with rfl | rfl | rfl | rfl | rfl | rfl
      · cases hj
        have P := P.2.1 (by omega)
        refine mx_sel [1, 4] rfl ?_
        exact P
      · cases hj
        have P := P.2.2.1 (by omega)
        refine mx_sel [] rfl ?_
        exact P
      · cases hj
        have P := P.2.2.2.1 (by omega)
        refine mx_sel [1, 4, 0] rfl ?_
        exact P
      · cases hj
        have P := P.2.2.2.2.1 (by omega)
        refine mx_sel [1, 4, 0] rfl ?_
        exact P
      · cases hj
        have P := P.2.2.2.2.2.1 (by omega)
        refine mx_sel [] rfl ?_
        exact P
      · cases hj
        have P := P.2.2.2.2.2.2 (by omega)
        refine mx_sel [1, 4, 0] rfl ?_
        exact P
  · have P := P.2 c11
    refine mx_iconst (pc := 14) (v := (0 : Int32)) (mx_dd dd_X12_writes_0 8 (14, .iconst 0, 1) rfl) (by decide) ?_
    exact mx_ireturn (pc := 15) (mx_dd dd_X12_writes_0 9 (15, .ireturn, 1) rfl) rfl rfl P
theorem b_X12_writes_60 {d : Nat} {h : mxH} {Q : mxRes → mxH → Prop} (x0 : Nat) (x3 : Int32)
    (P : hpK h x0 = 12 ∧ ∃ b1 : Nat, hpR h x0 56 = some b1 ∧ hpK h b1 = 14 ∧ vp_in (370 : Int32) (hpZ h b1) ∧ ((¬ (hpI h b1 (370 : Int32).toNatClampNeg) = (100 : Int32) → ∀ h1 : mxH, h1 = hsI h b1 (370 : Int32).toNatClampNeg ((hpI h b1 (370 : Int32).toNatClampNeg) + (1 : Int32)) → ∃ b2 : Nat, hpR h1 x0 56 = some b2 ∧ hpK h1 b2 = 14 ∧ vp_in (370 : Int32) (hpZ h1 b2) ∧ vp_in ((370 : Int32) + (hpI h1 b2 (370 : Int32).toNatClampNeg)) (hpZ h1 b2) ∧ ∀ h2 : mxH, h2 = hsI h1 b2 ((370 : Int32) + (hpI h1 b2 (370 : Int32).toNatClampNeg)).toNatClampNeg x3 → Q (.inl (some (.int (1 : Int32)))) h2) ∧ ((hpI h b1 (370 : Int32).toNatClampNeg) = (100 : Int32) → Q (.inl (some (.int (0 : Int32)))) h))) : mx_SX mY_X12_writes d 60 [(0, .ref x0), (3, .int x3)] [] h Q := by
  refine mx_aload_n (pc := 60) 0 (mx_dd dd_X12_writes_0 15 (60, .aload_n 0, 1) rfl) rfl rfl ?_
  obtain ⟨g1, P⟩ := P
  obtain ⟨b1, g2, P⟩ := P
  refine mx_getR (pc := 61) mx_fl_X12_312 g1 rfl g2 (mx_dd dd_X12_writes_0 16 (61, .getfield 312, 3) rfl) ?_
  refine mx_sipush (pc := 64) (v := (370 : Int32)) (mx_dd dd_X12_writes_0 17 (64, .sipush 370, 3) rfl) (by decide) ?_
  obtain ⟨g3, P⟩ := P
  obtain ⟨g4, P⟩ := P
  refine mx_iald (pc := 67) g3 g4 (mx_dd dd_X12_writes_0 18 (67, .iaload, 1) rfl) ?_
  refine mx_bipush (pc := 68) (v := (100 : Int32)) (mx_dd dd_X12_writes_0 19 (68, .bipush 100, 2) rfl) (by decide) ?_
  refine mx_icmp_ne (pc := 70) 75 (mx_dd dd_X12_writes_0 20 (70, .if_icmp .ne 5, 3) rfl) rfl (fun c70 => ?_) (fun c70 => ?_)
  · have P := P.1 c70
    refine mx_aload_n (pc := 75) 0 (mx_dd dd_X12_writes_0 23 (75, .aload_n 0, 1) rfl) rfl rfl ?_
    refine mx_getR (pc := 76) mx_fl_X12_312 g1 rfl g2 (mx_dd dd_X12_writes_0 24 (76, .getfield 312, 3) rfl) ?_
    refine mx_sipush (pc := 79) (v := (370 : Int32)) (mx_dd dd_X12_writes_0 25 (79, .sipush 370, 3) rfl) (by decide) ?_
    refine mx_dup2 (pc := 82) (mx_dd dd_X12_writes_0 26 (82, .dup2, 1) rfl) rfl rfl ?_
    refine mx_iald (pc := 83) g3 g4 (mx_dd dd_X12_writes_0 27 (83, .iaload, 1) rfl) ?_
    refine mx_iconst (pc := 84) (v := (1 : Int32)) (mx_dd dd_X12_writes_0 28 (84, .iconst 1, 1) rfl) (by decide) ?_
    refine mx_iadd (pc := 85) (mx_dd dd_X12_writes_0 29 (85, .iadd, 1) rfl) ?_
    refine mx_iast (pc := 86) g3 g4 (mx_dd dd_X12_writes_0 30 (86, .iastore, 1) rfl) ?_
    have P := P _ rfl
    refine mx_aload_n (pc := 87) 0 (mx_dd dd_X12_writes_0 31 (87, .aload_n 0, 1) rfl) rfl rfl ?_
    obtain ⟨b2, g5, P⟩ := P
    refine mx_getR (pc := 88) mx_fl_X12_312 g1 rfl g5 (mx_dd dd_X12_writes_0 32 (88, .getfield 312, 3) rfl) ?_
    refine mx_sipush (pc := 91) (v := (370 : Int32)) (mx_dd dd_X12_writes_0 33 (91, .sipush 370, 3) rfl) (by decide) ?_
    refine mx_aload_n (pc := 94) 0 (mx_dd dd_X12_writes_0 34 (94, .aload_n 0, 1) rfl) rfl rfl ?_
    refine mx_getR (pc := 95) mx_fl_X12_312 g1 rfl g5 (mx_dd dd_X12_writes_0 35 (95, .getfield 312, 3) rfl) ?_
    refine mx_sipush (pc := 98) (v := (370 : Int32)) (mx_dd dd_X12_writes_0 36 (98, .sipush 370, 3) rfl) (by decide) ?_
    obtain ⟨g6, P⟩ := P
    obtain ⟨g7, P⟩ := P
    refine mx_iald (pc := 101) g6 g7 (mx_dd dd_X12_writes_0 37 (101, .iaload, 1) rfl) ?_
    refine mx_iadd (pc := 102) (mx_dd dd_X12_writes_0 38 (102, .iadd, 1) rfl) ?_
    refine mx_iload_n (pc := 103) 1 (mx_dd dd_X12_writes_0 39 (103, .iload_n 3, 1) rfl) rfl rfl ?_
    obtain ⟨g8, P⟩ := P
    refine mx_iast (pc := 104) g6 g8 (mx_dd dd_X12_writes_1 0 (104, .iastore, 1) rfl) ?_
    have P := P _ rfl
    refine mx_iconst (pc := 105) (v := (1 : Int32)) (mx_dd dd_X12_writes_1 1 (105, .iconst 1, 1) rfl) (by decide) ?_
    exact mx_ireturn (pc := 106) (mx_dd dd_X12_writes_1 2 (106, .ireturn, 1) rfl) rfl rfl P
  · have P := P.2 c70
    refine mx_iconst (pc := 73) (v := (0 : Int32)) (mx_dd dd_X12_writes_0 21 (73, .iconst 0, 1) rfl) (by decide) ?_
    exact mx_ireturn (pc := 74) (mx_dd dd_X12_writes_0 22 (74, .ireturn, 1) rfl) rfl rfl P
theorem b_X12_writes_107 {d : Nat} {h : mxH} {Q : mxRes → mxH → Prop} (x0 : Nat) (x3 : Int32) (x4 : Int32)
    (P : 1 ≤ d ∧ hpK h x0 = 12 ∧ mx_SM mY_X12_writesAt (d - 1) [.ref x0, .int x4, .int x3] h (mx_KI (fun v1 h1 => (v1 = 0 ∨ v1 = 1) ∧ Q (.inl (some (.int v1))) h1) (mx_XX mY_X12_writes Q))) : mx_SX mY_X12_writes d 107 [(0, .ref x0), (3, .int x3), (4, .int x4)] [] h Q := by
  refine mx_aload_n (pc := 107) 0 (mx_dd dd_X12_writes_1 3 (107, .aload_n 0, 1) rfl) rfl rfl ?_
  refine mx_iload (pc := 108) 2 (mx_dd dd_X12_writes_1 4 (108, .iload 4, 2) rfl) rfl ?_
  refine mx_iload_n (pc := 110) 1 (mx_dd dd_X12_writes_1 5 (110, .iload_n 3, 1) rfl) rfl rfl ?_
  obtain ⟨g1, P⟩ := P
  obtain ⟨g2, P⟩ := P
  refine mx_cVI (pc := 111) (Y := mY_X12_writesAt) (As := [.int _, .int _]) mx_ml_X12_452 mx_y_X12_writesAt rfl g2 (by decide) rfl (by decide) rfl (mx_dd dd_X12_writes_1 6 (111, .invokevirtual 452, 3) rfl) g1 (by decide) P (fun v1 h1 P => ?_)
  obtain ⟨g3, P⟩ := P
  exact mx_ireturn (pc := 114) (mx_dd dd_X12_writes_1 7 (114, .ireturn, 1) rfl) rfl (mx_nb g3).1 P
theorem b_X12_writes_115 {d : Nat} {h : mxH} {Q : mxRes → mxH → Prop} (x0 : Nat) (x3 : Int32) (x4 : Int32)
    (P : hpK h x0 = 12 ∧ ∃ b1 : Nat, hpR h x0 59 = some b1 ∧ hpK h b1 = 14 ∧ vp_in x4 (hpZ h b1) ∧ 1 ≤ d ∧ mx_SM mY_X12_appends (d - 1) [.ref x0, .int (hpI h b1 x4.toNatClampNeg), .int x3] h (mx_KI (fun v1 h1 => (v1 = 0 ∨ v1 = 1) ∧ Q (.inl (some (.int v1))) h1) (mx_XX mY_X12_writes Q))) : mx_SX mY_X12_writes d 115 [(0, .ref x0), (3, .int x3), (4, .int x4)] [] h Q := by
  refine mx_aload_n (pc := 115) 0 (mx_dd dd_X12_writes_1 8 (115, .aload_n 0, 1) rfl) rfl rfl ?_
  refine mx_aload_n (pc := 116) 0 (mx_dd dd_X12_writes_1 9 (116, .aload_n 0, 1) rfl) rfl rfl ?_
  obtain ⟨g1, P⟩ := P
  obtain ⟨b1, g2, P⟩ := P
  refine mx_getR (pc := 117) mx_fl_X12_389 g1 rfl g2 (mx_dd dd_X12_writes_1 10 (117, .getfield 389, 3) rfl) ?_
  refine mx_iload (pc := 120) 2 (mx_dd dd_X12_writes_1 11 (120, .iload 4, 2) rfl) rfl ?_
  obtain ⟨g3, P⟩ := P
  obtain ⟨g4, P⟩ := P
  refine mx_iald (pc := 122) g3 g4 (mx_dd dd_X12_writes_1 12 (122, .iaload, 1) rfl) ?_
  refine mx_iload_n (pc := 123) 1 (mx_dd dd_X12_writes_1 13 (123, .iload_n 3, 1) rfl) rfl rfl ?_
  obtain ⟨g5, P⟩ := P
  refine mx_cVI (pc := 124) (Y := mY_X12_appends) (As := [.int _, .int _]) mx_ml_X12_456 mx_y_X12_appends rfl g1 (by decide) rfl (by decide) rfl (mx_dd dd_X12_writes_1 14 (124, .invokevirtual 456, 3) rfl) g5 (by decide) P (fun v1 h1 P => ?_)
  obtain ⟨g6, P⟩ := P
  exact mx_ireturn (pc := 127) (mx_dd dd_X12_writes_1 15 (127, .ireturn, 1) rfl) rfl (mx_nb g6).1 P
theorem b_X12_writes_128 {d : Nat} {h : mxH} {Q : mxRes → mxH → Prop} (x0 : Nat) (x3 : Int32) (x4 : Int32)
    (P : hpK h x0 = 12 ∧ ∃ b1 : Nat, hpR h x0 59 = some b1 ∧ hpK h b1 = 14 ∧ vp_in x4 (hpZ h b1) ∧ 1 ≤ d ∧ mx_SM mY_X12_addsTo (d - 1) [.ref x0, .int (hpI h b1 x4.toNatClampNeg), .int x3] h (mx_KV (fun h1 => Q (.inl (some (.int (1 : Int32)))) h1) (mx_XX mY_X12_writes Q))) : mx_SX mY_X12_writes d 128 [(0, .ref x0), (3, .int x3), (4, .int x4)] [] h Q := by
  refine mx_aload_n (pc := 128) 0 (mx_dd dd_X12_writes_1 16 (128, .aload_n 0, 1) rfl) rfl rfl ?_
  refine mx_aload_n (pc := 129) 0 (mx_dd dd_X12_writes_1 17 (129, .aload_n 0, 1) rfl) rfl rfl ?_
  obtain ⟨g1, P⟩ := P
  obtain ⟨b1, g2, P⟩ := P
  refine mx_getR (pc := 130) mx_fl_X12_389 g1 rfl g2 (mx_dd dd_X12_writes_1 18 (130, .getfield 389, 3) rfl) ?_
  refine mx_iload (pc := 133) 2 (mx_dd dd_X12_writes_1 19 (133, .iload 4, 2) rfl) rfl ?_
  obtain ⟨g3, P⟩ := P
  obtain ⟨g4, P⟩ := P
  refine mx_iald (pc := 135) g3 g4 (mx_dd dd_X12_writes_1 20 (135, .iaload, 1) rfl) ?_
  refine mx_iload_n (pc := 136) 1 (mx_dd dd_X12_writes_1 21 (136, .iload_n 3, 1) rfl) rfl rfl ?_
  obtain ⟨g5, P⟩ := P
  refine mx_cVV (pc := 137) (Y := mY_X12_addsTo) (As := [.int _, .int _]) mx_ml_X12_459 mx_y_X12_addsTo rfl g1 (by decide) rfl (by decide) rfl (mx_dd dd_X12_writes_1 22 (137, .invokevirtual 459, 3) rfl) g5 (by decide) P (fun h1 P => ?_)
  refine mx_iconst (pc := 140) (v := (1 : Int32)) (mx_dd dd_X12_writes_1 23 (140, .iconst 1, 1) rfl) (by decide) ?_
  exact mx_ireturn (pc := 141) (mx_dd dd_X12_writes_1 24 (141, .ireturn, 1) rfl) rfl rfl P
theorem b_X12_writes_142 {d : Nat} {h : mxH} {Q : mxRes → mxH → Prop} 
    (P : Q (.inl (some (.int (0 : Int32)))) h) : mx_SX mY_X12_writes d 142 [] [] h Q := by
  refine mx_iconst (pc := 142) (v := (0 : Int32)) (mx_dd dd_X12_writes_1 25 (142, .iconst 0, 1) rfl) (by decide) ?_
  exact mx_ireturn (pc := 143) (mx_dd dd_X12_writes_1 26 (143, .ireturn, 1) rfl) rfl rfl P
theorem b_X12_appends {d : Nat} {h : mxH} {Q : mxRes → mxH → Prop} (x0 : Nat) (x1 : Int32) (x2 : Int32)
    (P : 1 ≤ d ∧ hpK h x0 = 12 ∧ mx_SM mY_X12_linesOf (d - 1) [.ref x0, .int x1] h (mx_KI (fun v1 h1 => ((¬ v1 = (40 : Int32) → hpK h1 x0 = 12 ∧ mx_SM mY_X12_linesOf (d - 1) [.ref x0, .int x1] h1 (mx_KI (fun v2 h2 => hpK h2 x0 = 12 ∧ mx_SM mY_X12_setsLine (d - 1) [.ref x0, .int x1, .int v2, .int x2] h2 (mx_KV (fun h3 => hpK h3 x0 = 12 ∧ ∃ b1 : Nat, hpR h3 x0 56 = some b1 ∧ hpK h3 b1 = 14 ∧ vp_in ((1 : Int32) + ((41 : Int32) * x1)) (hpZ h3 b1) ∧ ∀ h4 : mxH, h4 = hsI h3 b1 ((1 : Int32) + ((41 : Int32) * x1)).toNatClampNeg ((hpI h3 b1 ((1 : Int32) + ((41 : Int32) * x1)).toNatClampNeg) + (1 : Int32)) → Q (.inl (some (.int (1 : Int32)))) h4) (mx_XX mY_X12_appends Q))) (mx_XX mY_X12_appends Q))) ∧ (v1 = (40 : Int32) → Q (.inl (some (.int (0 : Int32)))) h1))) (mx_XX mY_X12_appends Q))) : mx_SM mY_X12_appends d [.ref x0, .int x1, .int x2] h Q := by
  refine mx_SM_of (by decide) (Nat.le_of_ble_eq_true rfl) ?_
  show mx_SX mY_X12_appends d 0 [(0, .ref x0), (1, .int x1), (2, .int x2)] [] h Q
  refine mx_aload_n (pc := 0) 0 (mx_dd dd_X12_appends 0 (0, .aload_n 0, 1) rfl) rfl rfl ?_
  refine mx_iload_n (pc := 1) 1 (mx_dd dd_X12_appends 1 (1, .iload_n 1, 1) rfl) rfl rfl ?_
  obtain ⟨g1, P⟩ := P
  obtain ⟨g2, P⟩ := P
  refine mx_cVI (pc := 2) (Y := mY_X12_linesOf) (As := [.int _]) mx_ml_X12_443 mx_y_X12_linesOf rfl g2 (by decide) rfl (by decide) rfl (mx_dd dd_X12_appends 2 (2, .invokevirtual 443, 3) rfl) g1 (by decide) P (fun v1 h1 P => ?_)
  refine mx_bipush (pc := 5) (v := (40 : Int32)) (mx_dd dd_X12_appends 3 (5, .bipush 40, 2) rfl) (by decide) ?_
  refine mx_icmp_ne (pc := 7) 12 (mx_dd dd_X12_appends 4 (7, .if_icmp .ne 5, 3) rfl) rfl (fun c7 => ?_) (fun c7 => ?_)
  · have P := P.1 c7
    refine mx_aload_n (pc := 12) 0 (mx_dd dd_X12_appends 7 (12, .aload_n 0, 1) rfl) rfl rfl ?_
    refine mx_iload_n (pc := 13) 1 (mx_dd dd_X12_appends 8 (13, .iload_n 1, 1) rfl) rfl rfl ?_
    refine mx_aload_n (pc := 14) 0 (mx_dd dd_X12_appends 9 (14, .aload_n 0, 1) rfl) rfl rfl ?_
    refine mx_iload_n (pc := 15) 1 (mx_dd dd_X12_appends 10 (15, .iload_n 1, 1) rfl) rfl rfl ?_
    obtain ⟨g3, P⟩ := P
    refine mx_cVI (pc := 16) (Y := mY_X12_linesOf) (As := [.int _]) mx_ml_X12_443 mx_y_X12_linesOf rfl g3 (by decide) rfl (by simp [Value.category]) rfl (mx_dd dd_X12_appends 11 (16, .invokevirtual 443, 3) rfl) g1 (by decide) P (fun v2 h2 P => ?_)
    refine mx_iload_n (pc := 19) 2 (mx_dd dd_X12_appends 12 (19, .iload_n 2, 1) rfl) rfl rfl ?_
    obtain ⟨g4, P⟩ := P
    refine mx_cVV (pc := 20) (Y := mY_X12_setsLine) (As := [.int _, .int _, .int _]) mx_ml_X12_462 mx_y_X12_setsLine rfl g4 (by decide) rfl (by decide) rfl (mx_dd dd_X12_appends 13 (20, .invokevirtual 462, 3) rfl) g1 (by decide) P (fun h3 P => ?_)
    refine mx_aload_n (pc := 23) 0 (mx_dd dd_X12_appends 14 (23, .aload_n 0, 1) rfl) rfl rfl ?_
    obtain ⟨g5, P⟩ := P
    obtain ⟨b1, g6, P⟩ := P
    refine mx_getR (pc := 24) mx_fl_X12_312 g5 rfl g6 (mx_dd dd_X12_appends 15 (24, .getfield 312, 3) rfl) ?_
    refine mx_iconst (pc := 27) (v := (1 : Int32)) (mx_dd dd_X12_appends 16 (27, .iconst 1, 1) rfl) (by decide) ?_
    refine mx_bipush (pc := 28) (v := (41 : Int32)) (mx_dd dd_X12_appends 17 (28, .bipush 41, 2) rfl) (by decide) ?_
    refine mx_iload_n (pc := 30) 1 (mx_dd dd_X12_appends 18 (30, .iload_n 1, 1) rfl) rfl rfl ?_
    refine mx_imul (pc := 31) (mx_dd dd_X12_appends 19 (31, .imul, 1) rfl) ?_
    refine mx_iadd (pc := 32) (mx_dd dd_X12_appends 20 (32, .iadd, 1) rfl) ?_
    refine mx_dup2 (pc := 33) (mx_dd dd_X12_appends 21 (33, .dup2, 1) rfl) rfl rfl ?_
    obtain ⟨g7, P⟩ := P
    obtain ⟨g8, P⟩ := P
    refine mx_iald (pc := 34) g7 g8 (mx_dd dd_X12_appends 22 (34, .iaload, 1) rfl) ?_
    refine mx_iconst (pc := 35) (v := (1 : Int32)) (mx_dd dd_X12_appends 23 (35, .iconst 1, 1) rfl) (by decide) ?_
    refine mx_iadd (pc := 36) (mx_dd dd_X12_appends 24 (36, .iadd, 1) rfl) ?_
    refine mx_iast (pc := 37) g7 g8 (mx_dd dd_X12_appends 25 (37, .iastore, 1) rfl) ?_
    have P := P _ rfl
    refine mx_iconst (pc := 38) (v := (1 : Int32)) (mx_dd dd_X12_appends 26 (38, .iconst 1, 1) rfl) (by decide) ?_
    exact mx_ireturn (pc := 39) (mx_dd dd_X12_appends 27 (39, .ireturn, 1) rfl) rfl rfl P
  · have P := P.2 c7
    refine mx_iconst (pc := 10) (v := (0 : Int32)) (mx_dd dd_X12_appends 5 (10, .iconst 0, 1) rfl) (by decide) ?_
    exact mx_ireturn (pc := 11) (mx_dd dd_X12_appends 6 (11, .ireturn, 1) rfl) rfl rfl P
theorem b_X12_writesAt {d : Nat} {h : mxH} {Q : mxRes → mxH → Prop} (x0 : Nat) (x1 : Int32) (x2 : Int32)
    (P : hpK h x0 = 12 ∧ ∃ b1 : Nat, hpR h x0 60 = some b1 ∧ hpK h b1 = 14 ∧ vp_in x1 (hpZ h b1) ∧ (((hpI h b1 x1.toNatClampNeg) < (40 : Int32) → ∃ b2 : Nat, hpR h x0 59 = some b2 ∧ hpK h b2 = 14 ∧ vp_in x1 (hpZ h b2) ∧ mx_SX mY_X12_writesAt d 20 [(0, .ref x0), (1, .int x1), (2, .int x2), (3, .int (hpI h b2 x1.toNatClampNeg))] [] h Q) ∧ (¬ (hpI h b1 x1.toNatClampNeg) < (40 : Int32) → Q (.inl (some (.int (0 : Int32)))) h))) : mx_SM mY_X12_writesAt d [.ref x0, .int x1, .int x2] h Q := by
  refine mx_SM_of (by decide) (Nat.le_of_ble_eq_true rfl) ?_
  show mx_SX mY_X12_writesAt d 0 [(0, .ref x0), (1, .int x1), (2, .int x2)] [] h Q
  refine mx_aload_n (pc := 0) 0 (mx_dd dd_X12_writesAt_0 0 (0, .aload_n 0, 1) rfl) rfl rfl ?_
  obtain ⟨g1, P⟩ := P
  obtain ⟨b1, g2, P⟩ := P
  refine mx_getR (pc := 1) mx_fl_X12_392 g1 rfl g2 (mx_dd dd_X12_writesAt_0 1 (1, .getfield 392, 3) rfl) ?_
  refine mx_iload_n (pc := 4) 1 (mx_dd dd_X12_writesAt_0 2 (4, .iload_n 1, 1) rfl) rfl rfl ?_
  obtain ⟨g3, P⟩ := P
  obtain ⟨g4, P⟩ := P
  refine mx_iald (pc := 5) g3 g4 (mx_dd dd_X12_writesAt_0 3 (5, .iaload, 1) rfl) ?_
  refine mx_bipush (pc := 6) (v := (40 : Int32)) (mx_dd dd_X12_writesAt_0 4 (6, .bipush 40, 2) rfl) (by decide) ?_
  refine mx_icmp_lt (pc := 8) 13 (mx_dd dd_X12_writesAt_0 5 (8, .if_icmp .lt 5, 3) rfl) rfl (fun c8 => ?_) (fun c8 => ?_)
  · have P := P.1 c8
    refine mx_aload_n (pc := 13) 0 (mx_dd dd_X12_writesAt_0 8 (13, .aload_n 0, 1) rfl) rfl rfl ?_
    obtain ⟨b2, g5, P⟩ := P
    refine mx_getR (pc := 14) mx_fl_X12_389 g1 rfl g5 (mx_dd dd_X12_writesAt_0 9 (14, .getfield 389, 3) rfl) ?_
    refine mx_iload_n (pc := 17) 1 (mx_dd dd_X12_writesAt_0 10 (17, .iload_n 1, 1) rfl) rfl rfl ?_
    obtain ⟨g6, P⟩ := P
    obtain ⟨g7, P⟩ := P
    refine mx_iald (pc := 18) g6 g7 (mx_dd dd_X12_writesAt_0 11 (18, .iaload, 1) rfl) ?_
    refine mx_istore_n (pc := 19) (mx_dd dd_X12_writesAt_0 12 (19, .istore_n 3, 1) rfl) rfl (by decide) (lv' := [(3, _), (0, _), (1, _), (2, _)]) rfl ?_
    refine mx_sel [1, 2, 3, 0] rfl ?_
    exact P
  · have P := P.2 c8
    refine mx_iconst (pc := 11) (v := (0 : Int32)) (mx_dd dd_X12_writesAt_0 6 (11, .iconst 0, 1) rfl) (by decide) ?_
    exact mx_ireturn (pc := 12) (mx_dd dd_X12_writesAt_0 7 (12, .ireturn, 1) rfl) rfl rfl P
theorem b_X12_writesAt_20 {d : Nat} {h : mxH} {Q : mxRes → mxH → Prop} (x0 : Nat) (x1 : Int32) (x2 : Int32) (x3 : Int32)
    (P : 1 ≤ d ∧ hpK h x0 = 12 ∧ mx_SM mY_X12_linesOf (d - 1) [.ref x0, .int x3] h (mx_KI (fun v1 h1 => hpK h1 x0 = 12 ∧ ∃ b1 : Nat, hpR h1 x0 60 = some b1 ∧ hpK h1 b1 = 14 ∧ vp_in x1 (hpZ h1 b1) ∧ (((hpI h1 b1 x1.toNatClampNeg) ≤ v1 → mx_SM mY_X12_linesOf (d - 1) [.ref x0, .int x3] h1 (mx_KI (fun v2 h2 => ((¬ (hpI h1 b1 x1.toNatClampNeg) = v2 → mx_SX mY_X12_writesAt d 74 [(0, .ref x0), (1, .int x1), (2, .int x2), (3, .int x3)] [] h2 Q) ∧ ((hpI h1 b1 x1.toNatClampNeg) = v2 → hpK h2 x0 = 12 ∧ ∃ b2 : Nat, hpR h2 x0 56 = some b2 ∧ hpK h2 b2 = 14 ∧ vp_in ((1 : Int32) + ((41 : Int32) * x3)) (hpZ h2 b2) ∧ ∀ h3 : mxH, h3 = hsI h2 b2 ((1 : Int32) + ((41 : Int32) * x3)).toNatClampNeg ((hpI h2 b2 ((1 : Int32) + ((41 : Int32) * x3)).toNatClampNeg) + (1 : Int32)) → mx_SX mY_X12_writesAt d 74 [(0, .ref x0), (1, .int x1), (2, .int x2), (3, .int x3)] [] h3 Q))) (mx_XX mY_X12_writesAt Q))) ∧ (¬ (hpI h1 b1 x1.toNatClampNeg) ≤ v1 → mx_SM mY_X12_appends (d - 1) [.ref x0, .int x3, .int (0 : Int32)] h1 (mx_KI (fun v3 h4 => mx_SX mY_X12_writesAt d 20 [(0, .ref x0), (1, .int x1), (2, .int x2), (3, .int x3)] [] h4 Q) (mx_XX mY_X12_writesAt Q))))) (mx_XX mY_X12_writesAt Q))) : mx_SX mY_X12_writesAt d 20 [(0, .ref x0), (1, .int x1), (2, .int x2), (3, .int x3)] [] h Q := by
  refine mx_aload_n (pc := 20) 0 (mx_dd dd_X12_writesAt_0 13 (20, .aload_n 0, 1) rfl) rfl rfl ?_
  refine mx_iload_n (pc := 21) 3 (mx_dd dd_X12_writesAt_0 14 (21, .iload_n 3, 1) rfl) rfl rfl ?_
  obtain ⟨g1, P⟩ := P
  obtain ⟨g2, P⟩ := P
  refine mx_cVI (pc := 22) (Y := mY_X12_linesOf) (As := [.int _]) mx_ml_X12_443 mx_y_X12_linesOf rfl g2 (by decide) rfl (by decide) rfl (mx_dd dd_X12_writesAt_0 15 (22, .invokevirtual 443, 3) rfl) g1 (by decide) P (fun v1 h1 P => ?_)
  refine mx_aload_n (pc := 25) 0 (mx_dd dd_X12_writesAt_0 16 (25, .aload_n 0, 1) rfl) rfl rfl ?_
  obtain ⟨g3, P⟩ := P
  obtain ⟨b1, g4, P⟩ := P
  refine mx_getR (pc := 26) mx_fl_X12_392 g3 rfl g4 (mx_dd dd_X12_writesAt_0 17 (26, .getfield 392, 3) rfl) ?_
  refine mx_iload_n (pc := 29) 1 (mx_dd dd_X12_writesAt_0 18 (29, .iload_n 1, 1) rfl) rfl rfl ?_
  obtain ⟨g5, P⟩ := P
  obtain ⟨g6, P⟩ := P
  refine mx_iald (pc := 30) g5 g6 (mx_dd dd_X12_writesAt_0 19 (30, .iaload, 1) rfl) ?_
  refine mx_icmp_ge (pc := 31) 45 (mx_dd dd_X12_writesAt_0 20 (31, .if_icmp .ge 14, 3) rfl) rfl (fun c31 => ?_) (fun c31 => ?_)
  · have P := P.1 c31
    refine mx_aload_n (pc := 45) 0 (mx_dd dd_X12_writesAt_0 27 (45, .aload_n 0, 1) rfl) rfl rfl ?_
    refine mx_getR (pc := 46) mx_fl_X12_392 g3 rfl g4 (mx_dd dd_X12_writesAt_0 28 (46, .getfield 392, 3) rfl) ?_
    refine mx_iload_n (pc := 49) 1 (mx_dd dd_X12_writesAt_0 29 (49, .iload_n 1, 1) rfl) rfl rfl ?_
    refine mx_iald (pc := 50) g5 g6 (mx_dd dd_X12_writesAt_0 30 (50, .iaload, 1) rfl) ?_
    refine mx_aload_n (pc := 51) 0 (mx_dd dd_X12_writesAt_0 31 (51, .aload_n 0, 1) rfl) rfl rfl ?_
    refine mx_iload_n (pc := 52) 3 (mx_dd dd_X12_writesAt_0 32 (52, .iload_n 3, 1) rfl) rfl rfl ?_
    refine mx_cVI (pc := 53) (Y := mY_X12_linesOf) (As := [.int _]) mx_ml_X12_443 mx_y_X12_linesOf rfl g3 (by decide) rfl (by simp [Value.category]) rfl (mx_dd dd_X12_writesAt_0 33 (53, .invokevirtual 443, 3) rfl) g1 (by decide) P (fun v2 h2 P => ?_)
    refine mx_icmp_ne (pc := 56) 74 (mx_dd dd_X12_writesAt_0 34 (56, .if_icmp .ne 18, 3) rfl) rfl (fun c56 => ?_) (fun c56 => ?_)
    · have P := P.1 c56
      exact P
    · have P := P.2 c56
      refine mx_aload_n (pc := 59) 0 (mx_dd dd_X12_writesAt_0 35 (59, .aload_n 0, 1) rfl) rfl rfl ?_
      obtain ⟨g7, P⟩ := P
      obtain ⟨b2, g8, P⟩ := P
      refine mx_getR (pc := 60) mx_fl_X12_312 g7 rfl g8 (mx_dd dd_X12_writesAt_0 36 (60, .getfield 312, 3) rfl) ?_
      refine mx_iconst (pc := 63) (v := (1 : Int32)) (mx_dd dd_X12_writesAt_0 37 (63, .iconst 1, 1) rfl) (by decide) ?_
      refine mx_bipush (pc := 64) (v := (41 : Int32)) (mx_dd dd_X12_writesAt_0 38 (64, .bipush 41, 2) rfl) (by decide) ?_
      refine mx_iload_n (pc := 66) 3 (mx_dd dd_X12_writesAt_0 39 (66, .iload_n 3, 1) rfl) rfl rfl ?_
      refine mx_imul (pc := 67) (mx_dd dd_X12_writesAt_1 0 (67, .imul, 1) rfl) ?_
      refine mx_iadd (pc := 68) (mx_dd dd_X12_writesAt_1 1 (68, .iadd, 1) rfl) ?_
      refine mx_dup2 (pc := 69) (mx_dd dd_X12_writesAt_1 2 (69, .dup2, 1) rfl) rfl rfl ?_
      obtain ⟨g9, P⟩ := P
      obtain ⟨g10, P⟩ := P
      refine mx_iald (pc := 70) g9 g10 (mx_dd dd_X12_writesAt_1 3 (70, .iaload, 1) rfl) ?_
      refine mx_iconst (pc := 71) (v := (1 : Int32)) (mx_dd dd_X12_writesAt_1 4 (71, .iconst 1, 1) rfl) (by decide) ?_
      refine mx_iadd (pc := 72) (mx_dd dd_X12_writesAt_1 5 (72, .iadd, 1) rfl) ?_
      refine mx_iast (pc := 73) g9 g10 (mx_dd dd_X12_writesAt_1 6 (73, .iastore, 1) rfl) ?_
      have P := P _ rfl
      exact P
  · have P := P.2 c31
    refine mx_aload_n (pc := 34) 0 (mx_dd dd_X12_writesAt_0 21 (34, .aload_n 0, 1) rfl) rfl rfl ?_
    refine mx_iload_n (pc := 35) 3 (mx_dd dd_X12_writesAt_0 22 (35, .iload_n 3, 1) rfl) rfl rfl ?_
    refine mx_iconst (pc := 36) (v := (0 : Int32)) (mx_dd dd_X12_writesAt_0 23 (36, .iconst 0, 1) rfl) (by decide) ?_
    refine mx_cVI (pc := 37) (Y := mY_X12_appends) (As := [.int _, .int _]) mx_ml_X12_456 mx_y_X12_appends rfl g3 (by decide) rfl (by decide) rfl (mx_dd dd_X12_writesAt_0 24 (37, .invokevirtual 456, 3) rfl) g1 (by decide) P (fun v3 h4 P => ?_)
    refine mx_istore (pc := 40) (mx_dd dd_X12_writesAt_0 25 (40, .istore 4, 2) rfl) (by decide) (lv' := [(4, _), (0, _), (1, _), (2, _), (3, _)]) rfl ?_
    refine mx_goto (pc := 42) 20 (mx_dd dd_X12_writesAt_0 26 (42, .goto (-22), 3) rfl) rfl ?_
    refine mx_sel [1, 2, 3, 4] rfl ?_
    exact P
theorem b_X12_writesAt_74 {d : Nat} {h : mxH} {Q : mxRes → mxH → Prop} (x0 : Nat) (x1 : Int32) (x2 : Int32) (x3 : Int32)
    (P : hpK h x0 = 12 ∧ ∃ b1 : Nat, hpR h x0 60 = some b1 ∧ hpK h b1 = 14 ∧ vp_in x1 (hpZ h b1) ∧ 1 ≤ d ∧ mx_SM mY_X12_setsLine (d - 1) [.ref x0, .int x3, .int (hpI h b1 x1.toNatClampNeg), .int x2] h (mx_KV (fun h1 => hpK h1 x0 = 12 ∧ ∃ b2 : Nat, hpR h1 x0 60 = some b2 ∧ hpK h1 b2 = 14 ∧ vp_in x1 (hpZ h1 b2) ∧ ∀ h2 : mxH, h2 = hsI h1 b2 x1.toNatClampNeg ((hpI h1 b2 x1.toNatClampNeg) + (1 : Int32)) → Q (.inl (some (.int (1 : Int32)))) h2) (mx_XX mY_X12_writesAt Q))) : mx_SX mY_X12_writesAt d 74 [(0, .ref x0), (1, .int x1), (2, .int x2), (3, .int x3)] [] h Q := by
  refine mx_aload_n (pc := 74) 0 (mx_dd dd_X12_writesAt_1 7 (74, .aload_n 0, 1) rfl) rfl rfl ?_
  refine mx_iload_n (pc := 75) 3 (mx_dd dd_X12_writesAt_1 8 (75, .iload_n 3, 1) rfl) rfl rfl ?_
  refine mx_aload_n (pc := 76) 0 (mx_dd dd_X12_writesAt_1 9 (76, .aload_n 0, 1) rfl) rfl rfl ?_
  obtain ⟨g1, P⟩ := P
  obtain ⟨b1, g2, P⟩ := P
  refine mx_getR (pc := 77) mx_fl_X12_392 g1 rfl g2 (mx_dd dd_X12_writesAt_1 10 (77, .getfield 392, 3) rfl) ?_
  refine mx_iload_n (pc := 80) 1 (mx_dd dd_X12_writesAt_1 11 (80, .iload_n 1, 1) rfl) rfl rfl ?_
  obtain ⟨g3, P⟩ := P
  obtain ⟨g4, P⟩ := P
  refine mx_iald (pc := 81) g3 g4 (mx_dd dd_X12_writesAt_1 12 (81, .iaload, 1) rfl) ?_
  refine mx_iload_n (pc := 82) 2 (mx_dd dd_X12_writesAt_1 13 (82, .iload_n 2, 1) rfl) rfl rfl ?_
  obtain ⟨g5, P⟩ := P
  refine mx_cVV (pc := 83) (Y := mY_X12_setsLine) (As := [.int _, .int _, .int _]) mx_ml_X12_462 mx_y_X12_setsLine rfl g1 (by decide) rfl (by decide) rfl (mx_dd dd_X12_writesAt_1 14 (83, .invokevirtual 462, 3) rfl) g5 (by decide) P (fun h1 P => ?_)
  refine mx_aload_n (pc := 86) 0 (mx_dd dd_X12_writesAt_1 15 (86, .aload_n 0, 1) rfl) rfl rfl ?_
  obtain ⟨g6, P⟩ := P
  obtain ⟨b2, g7, P⟩ := P
  refine mx_getR (pc := 87) mx_fl_X12_392 g6 rfl g7 (mx_dd dd_X12_writesAt_1 16 (87, .getfield 392, 3) rfl) ?_
  refine mx_iload_n (pc := 90) 1 (mx_dd dd_X12_writesAt_1 17 (90, .iload_n 1, 1) rfl) rfl rfl ?_
  refine mx_dup2 (pc := 91) (mx_dd dd_X12_writesAt_1 18 (91, .dup2, 1) rfl) rfl rfl ?_
  obtain ⟨g8, P⟩ := P
  obtain ⟨g9, P⟩ := P
  refine mx_iald (pc := 92) g8 g9 (mx_dd dd_X12_writesAt_1 19 (92, .iaload, 1) rfl) ?_
  refine mx_iconst (pc := 93) (v := (1 : Int32)) (mx_dd dd_X12_writesAt_1 20 (93, .iconst 1, 1) rfl) (by decide) ?_
  refine mx_iadd (pc := 94) (mx_dd dd_X12_writesAt_1 21 (94, .iadd, 1) rfl) ?_
  refine mx_iast (pc := 95) g8 g9 (mx_dd dd_X12_writesAt_1 22 (95, .iastore, 1) rfl) ?_
  have P := P _ rfl
  refine mx_iconst (pc := 96) (v := (1 : Int32)) (mx_dd dd_X12_writesAt_1 23 (96, .iconst 1, 1) rfl) (by decide) ?_
  exact mx_ireturn (pc := 97) (mx_dd dd_X12_writesAt_1 24 (97, .ireturn, 1) rfl) rfl rfl P
theorem b_X12_ends {d : Nat} {h : mxH} {Q : mxRes → mxH → Prop} (x0 : Nat) (x1 : Int32) (x2 : Int32)
    (P : 1 ≤ d ∧ hpK h x0 = 12 ∧ mx_SM mY_X12_sets (d - 1) [.ref x0, .int x1, .int (33 : Int32), .int x2] h (mx_KV (fun h1 => hpK h1 x0 = 12 ∧ mx_SM mY_X12_sets (d - 1) [.ref x0, .int x1, .int (48 : Int32), .int (1 : Int32)] h1 (mx_KV (fun h2 => Q (.inl none) h2) (mx_XX mY_X12_ends Q))) (mx_XX mY_X12_ends Q))) : mx_SM mY_X12_ends d [.ref x0, .int x1, .int x2] h Q := by
  refine mx_SM_of (by decide) (Nat.le_of_ble_eq_true rfl) ?_
  show mx_SX mY_X12_ends d 0 [(0, .ref x0), (1, .int x1), (2, .int x2)] [] h Q
  refine mx_aload_n (pc := 0) 0 (mx_dd dd_X12_ends 0 (0, .aload_n 0, 1) rfl) rfl rfl ?_
  refine mx_iload_n (pc := 1) 1 (mx_dd dd_X12_ends 1 (1, .iload_n 1, 1) rfl) rfl rfl ?_
  refine mx_bipush (pc := 2) (v := (33 : Int32)) (mx_dd dd_X12_ends 2 (2, .bipush 33, 2) rfl) (by decide) ?_
  refine mx_iload_n (pc := 4) 2 (mx_dd dd_X12_ends 3 (4, .iload_n 2, 1) rfl) rfl rfl ?_
  obtain ⟨g1, P⟩ := P
  obtain ⟨g2, P⟩ := P
  refine mx_cVV (pc := 5) (Y := mY_X12_sets) (As := [.int _, .int _, .int _]) mx_ml_X12_419 mx_y_X12_sets rfl g2 (by decide) rfl (by decide) rfl (mx_dd dd_X12_ends 4 (5, .invokevirtual 419, 3) rfl) g1 (by decide) P (fun h1 P => ?_)
  refine mx_aload_n (pc := 8) 0 (mx_dd dd_X12_ends 5 (8, .aload_n 0, 1) rfl) rfl rfl ?_
  refine mx_iload_n (pc := 9) 1 (mx_dd dd_X12_ends 6 (9, .iload_n 1, 1) rfl) rfl rfl ?_
  refine mx_bipush (pc := 10) (v := (48 : Int32)) (mx_dd dd_X12_ends 7 (10, .bipush 48, 2) rfl) (by decide) ?_
  refine mx_iconst (pc := 12) (v := (1 : Int32)) (mx_dd dd_X12_ends 8 (12, .iconst 1, 1) rfl) (by decide) ?_
  obtain ⟨g3, P⟩ := P
  refine mx_cVV (pc := 13) (Y := mY_X12_sets) (As := [.int _, .int _, .int _]) mx_ml_X12_419 mx_y_X12_sets rfl g3 (by decide) rfl (by decide) rfl (mx_dd dd_X12_ends 9 (13, .invokevirtual 419, 3) rfl) g1 (by decide) P (fun h2 P => ?_)
  exact mx_return (pc := 16) (mx_dd dd_X12_ends 10 (16, .return_, 1) rfl) rfl P
theorem b_X12_isStoppedNow {d : Nat} {h : mxH} {Q : mxRes → mxH → Prop} (x0 : Nat)
    (P : hpK h x0 = 12 ∧ ∃ b1 : Nat, hpR h x0 73 = some b1 ∧ hpK h b1 = 14 ∧ vp_in (2 : Int32) (hpZ h b1) ∧ ((¬ (hpI h b1 (2 : Int32).toNatClampNeg) = (1 : Int32) → Q (.inl (some (.int (0 : Int32)))) h) ∧ ((hpI h b1 (2 : Int32).toNatClampNeg) = (1 : Int32) → Q (.inl (some (.int (1 : Int32)))) h))) : mx_SM mY_X12_isStoppedNow d [.ref x0] h Q := by
  refine mx_SM_of (by decide) (Nat.le_of_ble_eq_true rfl) ?_
  show mx_SX mY_X12_isStoppedNow d 0 [(0, .ref x0)] [] h Q
  refine mx_aload_n (pc := 0) 0 (mx_dd dd_X12_isStoppedNow 0 (0, .aload_n 0, 1) rfl) rfl rfl ?_
  obtain ⟨g1, P⟩ := P
  obtain ⟨b1, g2, P⟩ := P
  refine mx_getR (pc := 1) mx_fl_X12_413 g1 rfl g2 (mx_dd dd_X12_isStoppedNow 1 (1, .getfield 413, 3) rfl) ?_
  refine mx_iconst (pc := 4) (v := (2 : Int32)) (mx_dd dd_X12_isStoppedNow 2 (4, .iconst 2, 1) rfl) (by decide) ?_
  obtain ⟨g3, P⟩ := P
  obtain ⟨g4, P⟩ := P
  refine mx_iald (pc := 5) g3 g4 (mx_dd dd_X12_isStoppedNow 3 (5, .iaload, 1) rfl) ?_
  refine mx_iconst (pc := 6) (v := (1 : Int32)) (mx_dd dd_X12_isStoppedNow 4 (6, .iconst 1, 1) rfl) (by decide) ?_
  refine mx_icmp_ne (pc := 7) 14 (mx_dd dd_X12_isStoppedNow 5 (7, .if_icmp .ne 7, 3) rfl) rfl (fun c7 => ?_) (fun c7 => ?_)
  · have P := P.1 c7
    refine mx_iconst (pc := 14) (v := (0 : Int32)) (mx_dd dd_X12_isStoppedNow 8 (14, .iconst 0, 1) rfl) (by decide) ?_
    exact mx_ireturn (pc := 15) (mx_dd dd_X12_isStoppedNow 9 (15, .ireturn, 1) rfl) rfl rfl P
  · have P := P.2 c7
    refine mx_iconst (pc := 10) (v := (1 : Int32)) (mx_dd dd_X12_isStoppedNow 6 (10, .iconst 1, 1) rfl) (by decide) ?_
    refine mx_goto (pc := 11) 15 (mx_dd dd_X12_isStoppedNow 7 (11, .goto 4, 3) rfl) rfl ?_
    exact mx_ireturn (pc := 15) (mx_dd dd_X12_isStoppedNow 9 (15, .ireturn, 1) rfl) rfl rfl P
theorem b_X12_isHalted {d : Nat} {h : mxH} {Q : mxRes → mxH → Prop} (x0 : Nat) (x1 : Int32)
    (P : 1 ≤ d ∧ hpK h x0 = 12 ∧ mx_SM mY_X12_isStoppedNow (d - 1) [.ref x0] h (mx_KI (fun v1 h1 => ((¬ v1 = 0 → mx_SX mY_X12_isHalted d 18 [] [] h1 Q) ∧ (v1 = 0 → hpK h1 x0 = 12 ∧ mx_SM mY_X12_of (d - 1) [.ref x0, .int x1, .int (48 : Int32)] h1 (mx_KI (fun v2 h2 => ((¬ v2 = (1 : Int32) → Q (.inl (some (.int (0 : Int32)))) h2) ∧ (v2 = (1 : Int32) → mx_SX mY_X12_isHalted d 18 [] [] h2 Q))) (mx_XX mY_X12_isHalted Q))))) (mx_XX mY_X12_isHalted Q))) : mx_SM mY_X12_isHalted d [.ref x0, .int x1] h Q := by
  refine mx_SM_of (by decide) (Nat.le_of_ble_eq_true rfl) ?_
  show mx_SX mY_X12_isHalted d 0 [(0, .ref x0), (1, .int x1)] [] h Q
  refine mx_aload_n (pc := 0) 0 (mx_dd dd_X12_isHalted 0 (0, .aload_n 0, 1) rfl) rfl rfl ?_
  obtain ⟨g1, P⟩ := P
  obtain ⟨g2, P⟩ := P
  refine mx_cVI (pc := 1) (Y := mY_X12_isStoppedNow) (As := []) mx_ml_X12_465 mx_y_X12_isStoppedNow rfl g2 (by decide) rfl (by decide) rfl (mx_dd dd_X12_isHalted 1 (1, .invokevirtual 465, 3) rfl) g1 (by decide) P (fun v1 h1 P => ?_)
  refine mx_if_ne (pc := 4) 18 (mx_dd dd_X12_isHalted 2 (4, .ifCond .ne 14, 3) rfl) rfl (fun c4 => ?_) (fun c4 => ?_)
  · have P := P.1 c4
    refine mx_sel [] rfl ?_
    exact P
  · have P := P.2 c4
    refine mx_aload_n (pc := 7) 0 (mx_dd dd_X12_isHalted 3 (7, .aload_n 0, 1) rfl) rfl rfl ?_
    refine mx_iload_n (pc := 8) 1 (mx_dd dd_X12_isHalted 4 (8, .iload_n 1, 1) rfl) rfl rfl ?_
    refine mx_bipush (pc := 9) (v := (48 : Int32)) (mx_dd dd_X12_isHalted 5 (9, .bipush 48, 2) rfl) (by decide) ?_
    obtain ⟨g3, P⟩ := P
    refine mx_cVI (pc := 11) (Y := mY_X12_of) (As := [.int _, .int _]) mx_ml_X12_416 mx_y_X12_of rfl g3 (by decide) rfl (by decide) rfl (mx_dd dd_X12_isHalted 6 (11, .invokevirtual 416, 3) rfl) g1 (by decide) P (fun v2 h2 P => ?_)
    refine mx_iconst (pc := 14) (v := (1 : Int32)) (mx_dd dd_X12_isHalted 7 (14, .iconst 1, 1) rfl) (by decide) ?_
    refine mx_icmp_ne (pc := 15) 22 (mx_dd dd_X12_isHalted 8 (15, .if_icmp .ne 7, 3) rfl) rfl (fun c15 => ?_) (fun c15 => ?_)
    · have P := P.1 c15
      refine mx_iconst (pc := 22) (v := (0 : Int32)) (mx_dd dd_X12_isHalted 11 (22, .iconst 0, 1) rfl) (by decide) ?_
      exact mx_ireturn (pc := 23) (mx_dd dd_X12_isHalted 12 (23, .ireturn, 1) rfl) rfl rfl P
    · have P := P.2 c15
      refine mx_sel [] rfl ?_
      exact P
theorem b_X12_isHalted_18 {d : Nat} {h : mxH} {Q : mxRes → mxH → Prop} 
    (P : Q (.inl (some (.int (1 : Int32)))) h) : mx_SX mY_X12_isHalted d 18 [] [] h Q := by
  refine mx_iconst (pc := 18) (v := (1 : Int32)) (mx_dd dd_X12_isHalted 9 (18, .iconst 1, 1) rfl) (by decide) ?_
  refine mx_goto (pc := 19) 23 (mx_dd dd_X12_isHalted 10 (19, .goto 4, 3) rfl) rfl ?_
  exact mx_ireturn (pc := 23) (mx_dd dd_X12_isHalted 12 (23, .ireturn, 1) rfl) rfl rfl P
theorem b_X12_statusOf {d : Nat} {h : mxH} {Q : mxRes → mxH → Prop} (x0 : Nat) (x1 : Int32)
    (P : 1 ≤ d ∧ hpK h x0 = 12 ∧ mx_SM mY_X12_of (d - 1) [.ref x0, .int x1, .int (33 : Int32)] h (mx_KI (fun v1 h1 => Q (.inl (some (.int v1))) h1) (mx_XX mY_X12_statusOf Q))) : mx_SM mY_X12_statusOf d [.ref x0, .int x1] h Q := by
  refine mx_SM_of (by decide) (Nat.le_of_ble_eq_true rfl) ?_
  show mx_SX mY_X12_statusOf d 0 [(0, .ref x0), (1, .int x1)] [] h Q
  refine mx_aload_n (pc := 0) 0 (mx_dd dd_X12_statusOf 0 (0, .aload_n 0, 1) rfl) rfl rfl ?_
  refine mx_iload_n (pc := 1) 1 (mx_dd dd_X12_statusOf 1 (1, .iload_n 1, 1) rfl) rfl rfl ?_
  refine mx_bipush (pc := 2) (v := (33 : Int32)) (mx_dd dd_X12_statusOf 2 (2, .bipush 33, 2) rfl) (by decide) ?_
  obtain ⟨g1, P⟩ := P
  obtain ⟨g2, P⟩ := P
  refine mx_cVI (pc := 4) (Y := mY_X12_of) (As := [.int _, .int _]) mx_ml_X12_416 mx_y_X12_of rfl g2 (by decide) rfl (by decide) rfl (mx_dd dd_X12_statusOf 3 (4, .invokevirtual 416, 3) rfl) g1 (by decide) P (fun v1 h1 P => ?_)
  exact mx_ireturn (pc := 7) (mx_dd dd_X12_statusOf 4 (7, .ireturn, 1) rfl) rfl rfl P
theorem b_X12_runsScript {d : Nat} {h : mxH} {Q : mxRes → mxH → Prop} (x0 : Nat) (x1 : Int32) (x2 : Int32)
    (P : ((x2 = (-1 : Int32) → mx_SX mY_X12_runsScript d 15 [(0, .ref x0), (1, .int x1), (2, .int x2)] [] h Q) ∧ (¬ x2 = (-1 : Int32) → hpK h x0 = 12 ∧ ∃ b1 : Nat, hpR h x0 34 = some b1 ∧ hpK h b1 = 14 ∧ vp_in x2 (hpZ h b1) ∧ ((¬ (hpI h b1 x2.toNatClampNeg) = (-1 : Int32) → mx_SX mY_X12_runsScript d 23 [(0, .ref x0), (1, .int x1), (2, .int x2)] [] h Q) ∧ ((hpI h b1 x2.toNatClampNeg) = (-1 : Int32) → mx_SX mY_X12_runsScript d 15 [(0, .ref x0), (1, .int x1), (2, .int x2)] [] h Q))))) : mx_SM mY_X12_runsScript d [.ref x0, .int x1, .int x2] h Q := by
  refine mx_SM_of (by decide) (Nat.le_of_ble_eq_true rfl) ?_
  show mx_SX mY_X12_runsScript d 0 [(0, .ref x0), (1, .int x1), (2, .int x2)] [] h Q
  refine mx_iload_n (pc := 0) 2 (mx_dd dd_X12_runsScript 0 (0, .iload_n 2, 1) rfl) rfl rfl ?_
  refine mx_iconst (pc := 1) (v := (-1 : Int32)) (mx_dd dd_X12_runsScript 1 (1, .iconst (-1), 1) rfl) (by decide) ?_
  refine mx_icmp_eq (pc := 2) 15 (mx_dd dd_X12_runsScript 2 (2, .if_icmp .eq 13, 3) rfl) rfl (fun c2 => ?_) (fun c2 => ?_)
  · have P := P.1 c2
    exact P
  · have P := P.2 c2
    refine mx_aload_n (pc := 5) 0 (mx_dd dd_X12_runsScript 3 (5, .aload_n 0, 1) rfl) rfl rfl ?_
    obtain ⟨g1, P⟩ := P
    obtain ⟨b1, g2, P⟩ := P
    refine mx_getR (pc := 6) mx_fl_X12_281 g1 rfl g2 (mx_dd dd_X12_runsScript 4 (6, .getfield 281, 3) rfl) ?_
    refine mx_iload_n (pc := 9) 2 (mx_dd dd_X12_runsScript 5 (9, .iload_n 2, 1) rfl) rfl rfl ?_
    obtain ⟨g3, P⟩ := P
    obtain ⟨g4, P⟩ := P
    refine mx_iald (pc := 10) g3 g4 (mx_dd dd_X12_runsScript 6 (10, .iaload, 1) rfl) ?_
    refine mx_iconst (pc := 11) (v := (-1 : Int32)) (mx_dd dd_X12_runsScript 7 (11, .iconst (-1), 1) rfl) (by decide) ?_
    refine mx_icmp_ne (pc := 12) 23 (mx_dd dd_X12_runsScript 8 (12, .if_icmp .ne 11, 3) rfl) rfl (fun c12 => ?_) (fun c12 => ?_)
    · have P := P.1 c12
      exact P
    · have P := P.2 c12
      exact P
theorem b_X12_runsScript_15 {d : Nat} {h : mxH} {Q : mxRes → mxH → Prop} (x0 : Nat) (x1 : Int32) (x2 : Int32)
    (P : 1 ≤ d ∧ hpK h x0 = 12 ∧ mx_SM mY_X12_sets (d - 1) [.ref x0, .int x1, .int (33 : Int32), .int (0 : Int32)] h (mx_KV (fun h1 => mx_SX mY_X12_runsScript d 23 [(0, .ref x0), (1, .int x1), (2, .int x2)] [] h1 Q) (mx_XX mY_X12_runsScript Q))) : mx_SX mY_X12_runsScript d 15 [(0, .ref x0), (1, .int x1), (2, .int x2)] [] h Q := by
  refine mx_aload_n (pc := 15) 0 (mx_dd dd_X12_runsScript 9 (15, .aload_n 0, 1) rfl) rfl rfl ?_
  refine mx_iload_n (pc := 16) 1 (mx_dd dd_X12_runsScript 10 (16, .iload_n 1, 1) rfl) rfl rfl ?_
  refine mx_bipush (pc := 17) (v := (33 : Int32)) (mx_dd dd_X12_runsScript 11 (17, .bipush 33, 2) rfl) (by decide) ?_
  refine mx_iconst (pc := 19) (v := (0 : Int32)) (mx_dd dd_X12_runsScript 12 (19, .iconst 0, 1) rfl) (by decide) ?_
  obtain ⟨g1, P⟩ := P
  obtain ⟨g2, P⟩ := P
  refine mx_cVV (pc := 20) (Y := mY_X12_sets) (As := [.int _, .int _, .int _]) mx_ml_X12_419 mx_y_X12_sets rfl g2 (by decide) rfl (by decide) rfl (mx_dd dd_X12_runsScript 13 (20, .invokevirtual 419, 3) rfl) g1 (by decide) P (fun h1 P => ?_)
  exact P
theorem b_X12_runsScript_23 {d : Nat} {h : mxH} {Q : mxRes → mxH → Prop} (x0 : Nat) (x1 : Int32) (x2 : Int32)
    (P : ((¬ x2 = (-1 : Int32) → hpK h x0 = 12 ∧ ∃ b1 : Nat, hpR h x0 34 = some b1 ∧ hpK h b1 = 14 ∧ vp_in x2 (hpZ h b1) ∧ mx_SX mY_X12_runsScript d 39 [(0, .ref x0), (1, .int x1), (3, .int (hpI h b1 x2.toNatClampNeg))] [] h Q) ∧ (x2 = (-1 : Int32) → mx_SX mY_X12_runsScript d 39 [(0, .ref x0), (1, .int x1), (3, .int (-1 : Int32))] [] h Q))) : mx_SX mY_X12_runsScript d 23 [(0, .ref x0), (1, .int x1), (2, .int x2)] [] h Q := by
  refine mx_iload_n (pc := 23) 2 (mx_dd dd_X12_runsScript 14 (23, .iload_n 2, 1) rfl) rfl rfl ?_
  refine mx_iconst (pc := 24) (v := (-1 : Int32)) (mx_dd dd_X12_runsScript 15 (24, .iconst (-1), 1) rfl) (by decide) ?_
  refine mx_icmp_ne (pc := 25) 32 (mx_dd dd_X12_runsScript 16 (25, .if_icmp .ne 7, 3) rfl) rfl (fun c25 => ?_) (fun c25 => ?_)
  · have P := P.1 c25
    refine mx_aload_n (pc := 32) 0 (mx_dd dd_X12_runsScript 19 (32, .aload_n 0, 1) rfl) rfl rfl ?_
    obtain ⟨g1, P⟩ := P
    obtain ⟨b1, g2, P⟩ := P
    refine mx_getR (pc := 33) mx_fl_X12_281 g1 rfl g2 (mx_dd dd_X12_runsScript 20 (33, .getfield 281, 3) rfl) ?_
    refine mx_iload_n (pc := 36) 2 (mx_dd dd_X12_runsScript 21 (36, .iload_n 2, 1) rfl) rfl rfl ?_
    obtain ⟨g3, P⟩ := P
    obtain ⟨g4, P⟩ := P
    refine mx_iald (pc := 37) g3 g4 (mx_dd dd_X12_runsScript 22 (37, .iaload, 1) rfl) ?_
    refine mx_istore_n (pc := 38) (mx_dd dd_X12_runsScript 23 (38, .istore_n 3, 1) rfl) rfl (by decide) (lv' := [(3, _), (0, _), (1, _), (2, _)]) rfl ?_
    refine mx_sel [1, 2, 0] rfl ?_
    exact P
  · have P := P.2 c25
    refine mx_iconst (pc := 28) (v := (-1 : Int32)) (mx_dd dd_X12_runsScript 17 (28, .iconst (-1), 1) rfl) (by decide) ?_
    refine mx_goto (pc := 29) 38 (mx_dd dd_X12_runsScript 18 (29, .goto 9, 3) rfl) rfl ?_
    refine mx_istore_n (pc := 38) (mx_dd dd_X12_runsScript 23 (38, .istore_n 3, 1) rfl) rfl (by decide) (lv' := [(3, _), (0, _), (1, _), (2, _)]) rfl ?_
    refine mx_sel [1, 2, 0] rfl ?_
    exact P
theorem b_X12_runsScript_39 {d : Nat} {h : mxH} {Q : mxRes → mxH → Prop} (x0 : Nat) (x1 : Int32) (x3 : Int32)
    (P : ((x3 = (-1 : Int32) → Q (.inl none) h) ∧ (¬ x3 = (-1 : Int32) → 1 ≤ d ∧ hpK h x0 = 12 ∧ mx_SM mY_X12_isHalted (d - 1) [.ref x0, .int x1] h (mx_KI (fun v1 h1 => ((¬ v1 = 0 → Q (.inl none) h1) ∧ (v1 = 0 → hpK h1 x0 = 12 ∧ ∃ b1 : Nat, hpR h1 x0 35 = some b1 ∧ hpK h1 b1 = 14 ∧ vp_in x3 (hpZ h1 b1) ∧ ((¬ (hpI h1 b1 x3.toNatClampNeg) = (1 : Int32) → mx_SM mY_X12_runsChain (d - 1) [.ref x0, .int x1, .int x3] h1 (mx_KV (fun h2 => mx_SX mY_X12_runsScript d 77 [(0, .ref x0), (1, .int x1), (3, .int x3)] [] h2 Q) (mx_XX mY_X12_runsScript Q))) ∧ ((hpI h1 b1 x3.toNatClampNeg) = (1 : Int32) → mx_SM mY_X12_makesJob (d - 1) [.ref x0, .int x1, .int x3] h1 (mx_KV (fun h3 => mx_SX mY_X12_runsScript d 77 [(0, .ref x0), (1, .int x1), (3, .int x3)] [] h3 Q) (mx_XX mY_X12_runsScript Q))))))) (mx_XX mY_X12_runsScript Q))))) : mx_SX mY_X12_runsScript d 39 [(0, .ref x0), (1, .int x1), (3, .int x3)] [] h Q := by
  refine mx_iload_n (pc := 39) 2 (mx_dd dd_X12_runsScript 24 (39, .iload_n 3, 1) rfl) rfl rfl ?_
  refine mx_iconst (pc := 40) (v := (-1 : Int32)) (mx_dd dd_X12_runsScript 25 (40, .iconst (-1), 1) rfl) (by decide) ?_
  refine mx_icmp_eq (pc := 41) 87 (mx_dd dd_X12_runsScript 26 (41, .if_icmp .eq 46, 3) rfl) rfl (fun c41 => ?_) (fun c41 => ?_)
  · have P := P.1 c41
    exact mx_return (pc := 87) (mx_dd dd_X12_runsScript 52 (87, .return_, 1) rfl) rfl P
  · have P := P.2 c41
    refine mx_aload_n (pc := 44) 0 (mx_dd dd_X12_runsScript 27 (44, .aload_n 0, 1) rfl) rfl rfl ?_
    refine mx_iload_n (pc := 45) 1 (mx_dd dd_X12_runsScript 28 (45, .iload_n 1, 1) rfl) rfl rfl ?_
    obtain ⟨g1, P⟩ := P
    obtain ⟨g2, P⟩ := P
    refine mx_cVI (pc := 46) (Y := mY_X12_isHalted) (As := [.int _]) mx_ml_X12_468 mx_y_X12_isHalted rfl g2 (by decide) rfl (by decide) rfl (mx_dd dd_X12_runsScript 29 (46, .invokevirtual 468, 3) rfl) g1 (by decide) P (fun v1 h1 P => ?_)
    refine mx_if_ne (pc := 49) 87 (mx_dd dd_X12_runsScript 30 (49, .ifCond .ne 38, 3) rfl) rfl (fun c49 => ?_) (fun c49 => ?_)
    · have P := P.1 c49
      exact mx_return (pc := 87) (mx_dd dd_X12_runsScript 52 (87, .return_, 1) rfl) rfl P
    · have P := P.2 c49
      refine mx_aload_n (pc := 52) 0 (mx_dd dd_X12_runsScript 31 (52, .aload_n 0, 1) rfl) rfl rfl ?_
      obtain ⟨g3, P⟩ := P
      obtain ⟨b1, g4, P⟩ := P
      refine mx_getR (pc := 53) mx_fl_X12_284 g3 rfl g4 (mx_dd dd_X12_runsScript 32 (53, .getfield 284, 3) rfl) ?_
      refine mx_iload_n (pc := 56) 2 (mx_dd dd_X12_runsScript 33 (56, .iload_n 3, 1) rfl) rfl rfl ?_
      obtain ⟨g5, P⟩ := P
      obtain ⟨g6, P⟩ := P
      refine mx_iald (pc := 57) g5 g6 (mx_dd dd_X12_runsScript 34 (57, .iaload, 1) rfl) ?_
      refine mx_iconst (pc := 58) (v := (1 : Int32)) (mx_dd dd_X12_runsScript 35 (58, .iconst 1, 1) rfl) (by decide) ?_
      refine mx_icmp_ne (pc := 59) 71 (mx_dd dd_X12_runsScript 36 (59, .if_icmp .ne 12, 3) rfl) rfl (fun c59 => ?_) (fun c59 => ?_)
      · have P := P.1 c59
        refine mx_aload_n (pc := 71) 0 (mx_dd dd_X12_runsScript 42 (71, .aload_n 0, 1) rfl) rfl rfl ?_
        refine mx_iload_n (pc := 72) 1 (mx_dd dd_X12_runsScript 43 (72, .iload_n 1, 1) rfl) rfl rfl ?_
        refine mx_iload_n (pc := 73) 2 (mx_dd dd_X12_runsScript 44 (73, .iload_n 3, 1) rfl) rfl rfl ?_
        refine mx_cVV (pc := 74) (Y := mY_X12_runsChain) (As := [.int _, .int _]) mx_ml_X12_474 mx_y_X12_runsChain rfl g3 (by decide) rfl (by decide) rfl (mx_dd dd_X12_runsScript 45 (74, .invokevirtual 474, 3) rfl) g1 (by decide) P (fun h2 P => ?_)
        exact P
      · have P := P.2 c59
        refine mx_aload_n (pc := 62) 0 (mx_dd dd_X12_runsScript 37 (62, .aload_n 0, 1) rfl) rfl rfl ?_
        refine mx_iload_n (pc := 63) 1 (mx_dd dd_X12_runsScript 38 (63, .iload_n 1, 1) rfl) rfl rfl ?_
        refine mx_iload_n (pc := 64) 2 (mx_dd dd_X12_runsScript 39 (64, .iload_n 3, 1) rfl) rfl rfl ?_
        refine mx_cVV (pc := 65) (Y := mY_X12_makesJob) (As := [.int _, .int _]) mx_ml_X12_471 mx_y_X12_makesJob rfl g3 (by decide) rfl (by decide) rfl (mx_dd dd_X12_runsScript 40 (65, .invokevirtual 471, 3) rfl) g1 (by decide) P (fun h3 P => ?_)
        refine mx_goto (pc := 68) 77 (mx_dd dd_X12_runsScript 41 (68, .goto 9, 3) rfl) rfl ?_
        exact P
theorem b_X12_runsScript_77 {d : Nat} {h : mxH} {Q : mxRes → mxH → Prop} (x0 : Nat) (x1 : Int32) (x3 : Int32)
    (P : hpK h x0 = 12 ∧ ∃ b1 : Nat, hpR h x0 38 = some b1 ∧ hpK h b1 = 14 ∧ vp_in x3 (hpZ h b1) ∧ mx_SX mY_X12_runsScript d 39 [(0, .ref x0), (1, .int x1), (3, .int (hpI h b1 x3.toNatClampNeg))] [] h Q) : mx_SX mY_X12_runsScript d 77 [(0, .ref x0), (1, .int x1), (3, .int x3)] [] h Q := by
  refine mx_aload_n (pc := 77) 0 (mx_dd dd_X12_runsScript 46 (77, .aload_n 0, 1) rfl) rfl rfl ?_
  obtain ⟨g1, P⟩ := P
  obtain ⟨b1, g2, P⟩ := P
  refine mx_getR (pc := 78) mx_fl_X12_293 g1 rfl g2 (mx_dd dd_X12_runsScript 47 (78, .getfield 293, 3) rfl) ?_
  refine mx_iload_n (pc := 81) 2 (mx_dd dd_X12_runsScript 48 (81, .iload_n 3, 1) rfl) rfl rfl ?_
  obtain ⟨g3, P⟩ := P
  obtain ⟨g4, P⟩ := P
  refine mx_iald (pc := 82) g3 g4 (mx_dd dd_X12_runsScript 49 (82, .iaload, 1) rfl) ?_
  refine mx_istore_n (pc := 83) (mx_dd dd_X12_runsScript 50 (83, .istore_n 3, 1) rfl) rfl (by decide) (lv' := [(3, _), (0, _), (1, _)]) rfl ?_
  refine mx_goto (pc := 84) 39 (mx_dd dd_X12_runsScript 51 (84, .goto (-45), 3) rfl) rfl ?_
  refine mx_sel [1, 2, 0] rfl ?_
  exact P
theorem b_X12_runsChain {d : Nat} {h : mxH} {Q : mxRes → mxH → Prop} (x0 : Nat) (x1 : Int32) (x2 : Int32)
    (P : hpK h x0 = 12 ∧ ∃ b1 : Nat, hpR h x0 34 = some b1 ∧ hpK h b1 = 14 ∧ vp_in x2 (hpZ h b1) ∧ mx_SX mY_X12_runsChain d 7 [(0, .ref x0), (1, .int x1), (3, .int (hpI h b1 x2.toNatClampNeg))] [] h Q) : mx_SM mY_X12_runsChain d [.ref x0, .int x1, .int x2] h Q := by
  refine mx_SM_of (by decide) (Nat.le_of_ble_eq_true rfl) ?_
  show mx_SX mY_X12_runsChain d 0 [(0, .ref x0), (1, .int x1), (2, .int x2)] [] h Q
  refine mx_aload_n (pc := 0) 0 (mx_dd dd_X12_runsChain 0 (0, .aload_n 0, 1) rfl) rfl rfl ?_
  obtain ⟨g1, P⟩ := P
  obtain ⟨b1, g2, P⟩ := P
  refine mx_getR (pc := 1) mx_fl_X12_281 g1 rfl g2 (mx_dd dd_X12_runsChain 1 (1, .getfield 281, 3) rfl) ?_
  refine mx_iload_n (pc := 4) 2 (mx_dd dd_X12_runsChain 2 (4, .iload_n 2, 1) rfl) rfl rfl ?_
  obtain ⟨g3, P⟩ := P
  obtain ⟨g4, P⟩ := P
  refine mx_iald (pc := 5) g3 g4 (mx_dd dd_X12_runsChain 3 (5, .iaload, 1) rfl) ?_
  refine mx_istore_n (pc := 6) (mx_dd dd_X12_runsChain 4 (6, .istore_n 3, 1) rfl) rfl (by decide) (lv' := [(3, _), (0, _), (1, _), (2, _)]) rfl ?_
  refine mx_sel [1, 2, 0] rfl ?_
  exact P
theorem b_X12_runsChain_7 {d : Nat} {h : mxH} {Q : mxRes → mxH → Prop} (x0 : Nat) (x1 : Int32) (x3 : Int32)
    (P : ((x3 = (-1 : Int32) → Q (.inl none) h) ∧ (¬ x3 = (-1 : Int32) → 1 ≤ d ∧ hpK h x0 = 12 ∧ mx_SM mY_X12_isHalted (d - 1) [.ref x0, .int x1] h (mx_KI (fun v1 h1 => ((¬ v1 = 0 → Q (.inl none) h1) ∧ (v1 = 0 → hpK h1 x0 = 12 ∧ ∃ b1 : Nat, hpR h1 x0 36 = some b1 ∧ hpK h1 b1 = 14 ∧ vp_in x3 (hpZ h1 b1) ∧ ((¬ (hpI h1 b1 x3.toNatClampNeg) = (1 : Int32) → mx_SX mY_X12_runsChain d 38 [(0, .ref x0), (1, .int x1), (3, .int x3)] [] h1 Q) ∧ ((hpI h1 b1 x3.toNatClampNeg) = (1 : Int32) → mx_SM mY_X12_statusOf (d - 1) [.ref x0, .int x1] h1 (mx_KI (fun v2 h2 => ((¬ v2 = 0 → mx_SX mY_X12_runsChain d 65 [(0, .ref x0), (1, .int x1), (3, .int x3)] [] h2 Q) ∧ (v2 = 0 → mx_SX mY_X12_runsChain d 38 [(0, .ref x0), (1, .int x1), (3, .int x3)] [] h2 Q))) (mx_XX mY_X12_runsChain Q))))))) (mx_XX mY_X12_runsChain Q))))) : mx_SX mY_X12_runsChain d 7 [(0, .ref x0), (1, .int x1), (3, .int x3)] [] h Q := by
  refine mx_iload_n (pc := 7) 2 (mx_dd dd_X12_runsChain 5 (7, .iload_n 3, 1) rfl) rfl rfl ?_
  refine mx_iconst (pc := 8) (v := (-1 : Int32)) (mx_dd dd_X12_runsChain 6 (8, .iconst (-1), 1) rfl) (by decide) ?_
  refine mx_icmp_eq (pc := 9) 75 (mx_dd dd_X12_runsChain 7 (9, .if_icmp .eq 66, 3) rfl) rfl (fun c9 => ?_) (fun c9 => ?_)
  · have P := P.1 c9
    exact mx_return (pc := 75) (mx_dd dd_X12_runsChain 43 (75, .return_, 1) rfl) rfl P
  · have P := P.2 c9
    refine mx_aload_n (pc := 12) 0 (mx_dd dd_X12_runsChain 8 (12, .aload_n 0, 1) rfl) rfl rfl ?_
    refine mx_iload_n (pc := 13) 1 (mx_dd dd_X12_runsChain 9 (13, .iload_n 1, 1) rfl) rfl rfl ?_
    obtain ⟨g1, P⟩ := P
    obtain ⟨g2, P⟩ := P
    refine mx_cVI (pc := 14) (Y := mY_X12_isHalted) (As := [.int _]) mx_ml_X12_468 mx_y_X12_isHalted rfl g2 (by decide) rfl (by decide) rfl (mx_dd dd_X12_runsChain 10 (14, .invokevirtual 468, 3) rfl) g1 (by decide) P (fun v1 h1 P => ?_)
    refine mx_if_ne (pc := 17) 75 (mx_dd dd_X12_runsChain 11 (17, .ifCond .ne 58, 3) rfl) rfl (fun c17 => ?_) (fun c17 => ?_)
    · have P := P.1 c17
      exact mx_return (pc := 75) (mx_dd dd_X12_runsChain 43 (75, .return_, 1) rfl) rfl P
    · have P := P.2 c17
      refine mx_aload_n (pc := 20) 0 (mx_dd dd_X12_runsChain 12 (20, .aload_n 0, 1) rfl) rfl rfl ?_
      obtain ⟨g3, P⟩ := P
      obtain ⟨b1, g4, P⟩ := P
      refine mx_getR (pc := 21) mx_fl_X12_287 g3 rfl g4 (mx_dd dd_X12_runsChain 13 (21, .getfield 287, 3) rfl) ?_
      refine mx_iload_n (pc := 24) 2 (mx_dd dd_X12_runsChain 14 (24, .iload_n 3, 1) rfl) rfl rfl ?_
      obtain ⟨g5, P⟩ := P
      obtain ⟨g6, P⟩ := P
      refine mx_iald (pc := 25) g5 g6 (mx_dd dd_X12_runsChain 15 (25, .iaload, 1) rfl) ?_
      refine mx_iconst (pc := 26) (v := (1 : Int32)) (mx_dd dd_X12_runsChain 16 (26, .iconst 1, 1) rfl) (by decide) ?_
      refine mx_icmp_ne (pc := 27) 38 (mx_dd dd_X12_runsChain 17 (27, .if_icmp .ne 11, 3) rfl) rfl (fun c27 => ?_) (fun c27 => ?_)
      · have P := P.1 c27
        exact P
      · have P := P.2 c27
        refine mx_aload_n (pc := 30) 0 (mx_dd dd_X12_runsChain 18 (30, .aload_n 0, 1) rfl) rfl rfl ?_
        refine mx_iload_n (pc := 31) 1 (mx_dd dd_X12_runsChain 19 (31, .iload_n 1, 1) rfl) rfl rfl ?_
        refine mx_cVI (pc := 32) (Y := mY_X12_statusOf) (As := [.int _]) mx_ml_X12_477 mx_y_X12_statusOf rfl g3 (by decide) rfl (by decide) rfl (mx_dd dd_X12_runsChain 20 (32, .invokevirtual 477, 3) rfl) g1 (by decide) P (fun v2 h2 P => ?_)
        refine mx_if_ne (pc := 35) 65 (mx_dd dd_X12_runsChain 21 (35, .ifCond .ne 30, 3) rfl) rfl (fun c35 => ?_) (fun c35 => ?_)
        · have P := P.1 c35
          exact P
        · have P := P.2 c35
          exact P
theorem b_X12_runsChain_38 {d : Nat} {h : mxH} {Q : mxRes → mxH → Prop} (x0 : Nat) (x1 : Int32) (x3 : Int32)
    (P : hpK h x0 = 12 ∧ ∃ b1 : Nat, hpR h x0 36 = some b1 ∧ hpK h b1 = 14 ∧ vp_in x3 (hpZ h b1) ∧ ((¬ (hpI h b1 x3.toNatClampNeg) = (2 : Int32) → mx_SX mY_X12_runsChain d 59 [(0, .ref x0), (1, .int x1), (3, .int x3)] [] h Q) ∧ ((hpI h b1 x3.toNatClampNeg) = (2 : Int32) → 1 ≤ d ∧ mx_SM mY_X12_statusOf (d - 1) [.ref x0, .int x1] h (mx_KI (fun v1 h1 => ((¬ v1 = 0 → mx_SX mY_X12_runsChain d 59 [(0, .ref x0), (1, .int x1), (3, .int x3)] [] h1 Q) ∧ (v1 = 0 → mx_SX mY_X12_runsChain d 65 [(0, .ref x0), (1, .int x1), (3, .int x3)] [] h1 Q))) (mx_XX mY_X12_runsChain Q))))) : mx_SX mY_X12_runsChain d 38 [(0, .ref x0), (1, .int x1), (3, .int x3)] [] h Q := by
  refine mx_aload_n (pc := 38) 0 (mx_dd dd_X12_runsChain 22 (38, .aload_n 0, 1) rfl) rfl rfl ?_
  obtain ⟨g1, P⟩ := P
  obtain ⟨b1, g2, P⟩ := P
  refine mx_getR (pc := 39) mx_fl_X12_287 g1 rfl g2 (mx_dd dd_X12_runsChain 23 (39, .getfield 287, 3) rfl) ?_
  refine mx_iload_n (pc := 42) 2 (mx_dd dd_X12_runsChain 24 (42, .iload_n 3, 1) rfl) rfl rfl ?_
  obtain ⟨g3, P⟩ := P
  obtain ⟨g4, P⟩ := P
  refine mx_iald (pc := 43) g3 g4 (mx_dd dd_X12_runsChain 25 (43, .iaload, 1) rfl) ?_
  refine mx_iconst (pc := 44) (v := (2 : Int32)) (mx_dd dd_X12_runsChain 26 (44, .iconst 2, 1) rfl) (by decide) ?_
  refine mx_icmp_ne (pc := 45) 59 (mx_dd dd_X12_runsChain 27 (45, .if_icmp .ne 14, 3) rfl) rfl (fun c45 => ?_) (fun c45 => ?_)
  · have P := P.1 c45
    exact P
  · have P := P.2 c45
    refine mx_aload_n (pc := 48) 0 (mx_dd dd_X12_runsChain 28 (48, .aload_n 0, 1) rfl) rfl rfl ?_
    refine mx_iload_n (pc := 49) 1 (mx_dd dd_X12_runsChain 29 (49, .iload_n 1, 1) rfl) rfl rfl ?_
    obtain ⟨g5, P⟩ := P
    refine mx_cVI (pc := 50) (Y := mY_X12_statusOf) (As := [.int _]) mx_ml_X12_477 mx_y_X12_statusOf rfl g1 (by decide) rfl (by decide) rfl (mx_dd dd_X12_runsChain 30 (50, .invokevirtual 477, 3) rfl) g5 (by decide) P (fun v1 h1 P => ?_)
    refine mx_if_ne (pc := 53) 59 (mx_dd dd_X12_runsChain 31 (53, .ifCond .ne 6, 3) rfl) rfl (fun c53 => ?_) (fun c53 => ?_)
    · have P := P.1 c53
      exact P
    · have P := P.2 c53
      refine mx_goto (pc := 56) 65 (mx_dd dd_X12_runsChain 32 (56, .goto 9, 3) rfl) rfl ?_
      exact P
theorem b_X12_runsChain_59 {d : Nat} {h : mxH} {Q : mxRes → mxH → Prop} (x0 : Nat) (x1 : Int32) (x3 : Int32)
    (P : 1 ≤ d ∧ hpK h x0 = 12 ∧ mx_SM mY_X12_runsPipes (d - 1) [.ref x0, .int x1, .int x3] h (mx_KV (fun h1 => mx_SX mY_X12_runsChain d 65 [(0, .ref x0), (1, .int x1), (3, .int x3)] [] h1 Q) (mx_XX mY_X12_runsChain Q))) : mx_SX mY_X12_runsChain d 59 [(0, .ref x0), (1, .int x1), (3, .int x3)] [] h Q := by
  refine mx_aload_n (pc := 59) 0 (mx_dd dd_X12_runsChain 33 (59, .aload_n 0, 1) rfl) rfl rfl ?_
  refine mx_iload_n (pc := 60) 1 (mx_dd dd_X12_runsChain 34 (60, .iload_n 1, 1) rfl) rfl rfl ?_
  refine mx_iload_n (pc := 61) 2 (mx_dd dd_X12_runsChain 35 (61, .iload_n 3, 1) rfl) rfl rfl ?_
  obtain ⟨g1, P⟩ := P
  obtain ⟨g2, P⟩ := P
  refine mx_cVV (pc := 62) (Y := mY_X12_runsPipes) (As := [.int _, .int _]) mx_ml_X12_480 mx_y_X12_runsPipes rfl g2 (by decide) rfl (by decide) rfl (mx_dd dd_X12_runsChain 36 (62, .invokevirtual 480, 3) rfl) g1 (by decide) P (fun h1 P => ?_)
  exact P
theorem b_X12_runsChain_65 {d : Nat} {h : mxH} {Q : mxRes → mxH → Prop} (x0 : Nat) (x1 : Int32) (x3 : Int32)
    (P : hpK h x0 = 12 ∧ ∃ b1 : Nat, hpR h x0 38 = some b1 ∧ hpK h b1 = 14 ∧ vp_in x3 (hpZ h b1) ∧ mx_SX mY_X12_runsChain d 7 [(0, .ref x0), (1, .int x1), (3, .int (hpI h b1 x3.toNatClampNeg))] [] h Q) : mx_SX mY_X12_runsChain d 65 [(0, .ref x0), (1, .int x1), (3, .int x3)] [] h Q := by
  refine mx_aload_n (pc := 65) 0 (mx_dd dd_X12_runsChain 37 (65, .aload_n 0, 1) rfl) rfl rfl ?_
  obtain ⟨g1, P⟩ := P
  obtain ⟨b1, g2, P⟩ := P
  refine mx_getR (pc := 66) mx_fl_X12_293 g1 rfl g2 (mx_dd dd_X12_runsChain 38 (66, .getfield 293, 3) rfl) ?_
  refine mx_iload_n (pc := 69) 2 (mx_dd dd_X12_runsChain 39 (69, .iload_n 3, 1) rfl) rfl rfl ?_
  obtain ⟨g3, P⟩ := P
  obtain ⟨g4, P⟩ := P
  refine mx_iald (pc := 70) g3 g4 (mx_dd dd_X12_runsChain 40 (70, .iaload, 1) rfl) ?_
  refine mx_istore_n (pc := 71) (mx_dd dd_X12_runsChain 41 (71, .istore_n 3, 1) rfl) rfl (by decide) (lv' := [(3, _), (0, _), (1, _)]) rfl ?_
  refine mx_goto (pc := 72) 7 (mx_dd dd_X12_runsChain 42 (72, .goto (-65), 3) rfl) rfl ?_
  refine mx_sel [1, 2, 0] rfl ?_
  exact P
theorem b_X12_runsPipes {d : Nat} {h : mxH} {Q : mxRes → mxH → Prop} (x0 : Nat) (x1 : Int32) (x2 : Int32)
    (P : hpK h x0 = 12 ∧ ∃ b1 : Nat, hpR h x0 38 = some b1 ∧ ∃ b2 : Nat, hpR h x0 34 = some b2 ∧ hpK h b2 = 14 ∧ vp_in x2 (hpZ h b2) ∧ hpK h b1 = 14 ∧ vp_in (hpI h b2 x2.toNatClampNeg) (hpZ h b1) ∧ ((¬ (hpI h b1 (hpI h b2 x2.toNatClampNeg).toNatClampNeg) = (-1 : Int32) → 1 ≤ d ∧ mx_SM mY_X12_runsSeveral (d - 1) [.ref x0, .int x1, .int (hpI h b2 x2.toNatClampNeg)] h (mx_KV (fun h1 => mx_SX mY_X12_runsPipes d 40 [(0, .ref x0), (1, .int x1), (2, .int x2)] [] h1 Q) (mx_XX mY_X12_runsPipes Q))) ∧ ((hpI h b1 (hpI h b2 x2.toNatClampNeg).toNatClampNeg) = (-1 : Int32) → 1 ≤ d ∧ mx_SM mY_X12_runsCommand (d - 1) [.ref x0, .int x1, .int (hpI h b2 x2.toNatClampNeg)] h (mx_KV (fun h2 => mx_SX mY_X12_runsPipes d 40 [(0, .ref x0), (1, .int x1), (2, .int x2)] [] h2 Q) (mx_XX mY_X12_runsPipes Q))))) : mx_SM mY_X12_runsPipes d [.ref x0, .int x1, .int x2] h Q := by
  refine mx_SM_of (by decide) (Nat.le_of_ble_eq_true rfl) ?_
  show mx_SX mY_X12_runsPipes d 0 [(0, .ref x0), (1, .int x1), (2, .int x2)] [] h Q
  refine mx_aload_n (pc := 0) 0 (mx_dd dd_X12_runsPipes 0 (0, .aload_n 0, 1) rfl) rfl rfl ?_
  obtain ⟨g1, P⟩ := P
  obtain ⟨b1, g2, P⟩ := P
  refine mx_getR (pc := 1) mx_fl_X12_293 g1 rfl g2 (mx_dd dd_X12_runsPipes 1 (1, .getfield 293, 3) rfl) ?_
  refine mx_aload_n (pc := 4) 0 (mx_dd dd_X12_runsPipes 2 (4, .aload_n 0, 1) rfl) rfl rfl ?_
  obtain ⟨b2, g3, P⟩ := P
  refine mx_getR (pc := 5) mx_fl_X12_281 g1 rfl g3 (mx_dd dd_X12_runsPipes 3 (5, .getfield 281, 3) rfl) ?_
  refine mx_iload_n (pc := 8) 2 (mx_dd dd_X12_runsPipes 4 (8, .iload_n 2, 1) rfl) rfl rfl ?_
  obtain ⟨g4, P⟩ := P
  obtain ⟨g5, P⟩ := P
  refine mx_iald (pc := 9) g4 g5 (mx_dd dd_X12_runsPipes 5 (9, .iaload, 1) rfl) ?_
  obtain ⟨g6, P⟩ := P
  obtain ⟨g7, P⟩ := P
  refine mx_iald (pc := 10) g6 g7 (mx_dd dd_X12_runsPipes 6 (10, .iaload, 1) rfl) ?_
  refine mx_iconst (pc := 11) (v := (-1 : Int32)) (mx_dd dd_X12_runsPipes 7 (11, .iconst (-1), 1) rfl) (by decide) ?_
  refine mx_icmp_ne (pc := 12) 29 (mx_dd dd_X12_runsPipes 8 (12, .if_icmp .ne 17, 3) rfl) rfl (fun c12 => ?_) (fun c12 => ?_)
  · have P := P.1 c12
    refine mx_aload_n (pc := 29) 0 (mx_dd dd_X12_runsPipes 17 (29, .aload_n 0, 1) rfl) rfl rfl ?_
    refine mx_iload_n (pc := 30) 1 (mx_dd dd_X12_runsPipes 18 (30, .iload_n 1, 1) rfl) rfl rfl ?_
    refine mx_aload_n (pc := 31) 0 (mx_dd dd_X12_runsPipes 19 (31, .aload_n 0, 1) rfl) rfl rfl ?_
    refine mx_getR (pc := 32) mx_fl_X12_281 g1 rfl g3 (mx_dd dd_X12_runsPipes 20 (32, .getfield 281, 3) rfl) ?_
    refine mx_iload_n (pc := 35) 2 (mx_dd dd_X12_runsPipes 21 (35, .iload_n 2, 1) rfl) rfl rfl ?_
    refine mx_iald (pc := 36) g4 g5 (mx_dd dd_X12_runsPipes 22 (36, .iaload, 1) rfl) ?_
    obtain ⟨g8, P⟩ := P
    refine mx_cVV (pc := 37) (Y := mY_X12_runsSeveral) (As := [.int _, .int _]) mx_ml_X12_486 mx_y_X12_runsSeveral rfl g1 (by decide) rfl (by decide) rfl (mx_dd dd_X12_runsPipes 23 (37, .invokevirtual 486, 3) rfl) g8 (by decide) P (fun h1 P => ?_)
    exact P
  · have P := P.2 c12
    refine mx_aload_n (pc := 15) 0 (mx_dd dd_X12_runsPipes 9 (15, .aload_n 0, 1) rfl) rfl rfl ?_
    refine mx_iload_n (pc := 16) 1 (mx_dd dd_X12_runsPipes 10 (16, .iload_n 1, 1) rfl) rfl rfl ?_
    refine mx_aload_n (pc := 17) 0 (mx_dd dd_X12_runsPipes 11 (17, .aload_n 0, 1) rfl) rfl rfl ?_
    refine mx_getR (pc := 18) mx_fl_X12_281 g1 rfl g3 (mx_dd dd_X12_runsPipes 12 (18, .getfield 281, 3) rfl) ?_
    refine mx_iload_n (pc := 21) 2 (mx_dd dd_X12_runsPipes 13 (21, .iload_n 2, 1) rfl) rfl rfl ?_
    refine mx_iald (pc := 22) g4 g5 (mx_dd dd_X12_runsPipes 14 (22, .iaload, 1) rfl) ?_
    obtain ⟨g9, P⟩ := P
    refine mx_cVV (pc := 23) (Y := mY_X12_runsCommand) (As := [.int _, .int _]) mx_ml_X12_483 mx_y_X12_runsCommand rfl g1 (by decide) rfl (by decide) rfl (mx_dd dd_X12_runsPipes 15 (23, .invokevirtual 483, 3) rfl) g9 (by decide) P (fun h2 P => ?_)
    refine mx_goto (pc := 26) 40 (mx_dd dd_X12_runsPipes 16 (26, .goto 14, 3) rfl) rfl ?_
    exact P
theorem b_X12_runsPipes_40 {d : Nat} {h : mxH} {Q : mxRes → mxH → Prop} (x0 : Nat) (x1 : Int32) (x2 : Int32)
    (P : 1 ≤ d ∧ hpK h x0 = 12 ∧ mx_SM mY_X12_isHalted (d - 1) [.ref x0, .int x1] h (mx_KI (fun v1 h1 => ((¬ v1 = 0 → Q (.inl none) h1) ∧ (v1 = 0 → hpK h1 x0 = 12 ∧ ∃ b1 : Nat, hpR h1 x0 35 = some b1 ∧ hpK h1 b1 = 14 ∧ vp_in x2 (hpZ h1 b1) ∧ ((¬ (hpI h1 b1 x2.toNatClampNeg) = (1 : Int32) → Q (.inl none) h1) ∧ ((hpI h1 b1 x2.toNatClampNeg) = (1 : Int32) → mx_SM mY_X12_statusOf (d - 1) [.ref x0, .int x1] h1 (mx_KI (fun v2 h2 => ((¬ v2 = 0 → hpK h2 x0 = 12 ∧ mx_SM mY_X12_sets (d - 1) [.ref x0, .int x1, .int (33 : Int32), .int (0 : Int32)] h2 (mx_KV (fun h3 => Q (.inl none) h3) (mx_XX mY_X12_runsPipes Q))) ∧ (v2 = 0 → hpK h2 x0 = 12 ∧ mx_SM mY_X12_sets (d - 1) [.ref x0, .int x1, .int (33 : Int32), .int (1 : Int32)] h2 (mx_KV (fun h4 => Q (.inl none) h4) (mx_XX mY_X12_runsPipes Q))))) (mx_XX mY_X12_runsPipes Q))))))) (mx_XX mY_X12_runsPipes Q))) : mx_SX mY_X12_runsPipes d 40 [(0, .ref x0), (1, .int x1), (2, .int x2)] [] h Q := by
  refine mx_aload_n (pc := 40) 0 (mx_dd dd_X12_runsPipes 24 (40, .aload_n 0, 1) rfl) rfl rfl ?_
  refine mx_iload_n (pc := 41) 1 (mx_dd dd_X12_runsPipes 25 (41, .iload_n 1, 1) rfl) rfl rfl ?_
  obtain ⟨g1, P⟩ := P
  obtain ⟨g2, P⟩ := P
  refine mx_cVI (pc := 42) (Y := mY_X12_isHalted) (As := [.int _]) mx_ml_X12_468 mx_y_X12_isHalted rfl g2 (by decide) rfl (by decide) rfl (mx_dd dd_X12_runsPipes 26 (42, .invokevirtual 468, 3) rfl) g1 (by decide) P (fun v1 h1 P => ?_)
  refine mx_if_ne (pc := 45) 78 (mx_dd dd_X12_runsPipes 27 (45, .ifCond .ne 33, 3) rfl) rfl (fun c45 => ?_) (fun c45 => ?_)
  · have P := P.1 c45
    exact mx_return (pc := 78) (mx_dd dd_X12_runsPipes 45 (78, .return_, 1) rfl) rfl P
  · have P := P.2 c45
    refine mx_aload_n (pc := 48) 0 (mx_dd dd_X12_runsPipes 28 (48, .aload_n 0, 1) rfl) rfl rfl ?_
    obtain ⟨g3, P⟩ := P
    obtain ⟨b1, g4, P⟩ := P
    refine mx_getR (pc := 49) mx_fl_X12_284 g3 rfl g4 (mx_dd dd_X12_runsPipes 29 (49, .getfield 284, 3) rfl) ?_
    refine mx_iload_n (pc := 52) 2 (mx_dd dd_X12_runsPipes 30 (52, .iload_n 2, 1) rfl) rfl rfl ?_
    obtain ⟨g5, P⟩ := P
    obtain ⟨g6, P⟩ := P
    refine mx_iald (pc := 53) g5 g6 (mx_dd dd_X12_runsPipes 31 (53, .iaload, 1) rfl) ?_
    refine mx_iconst (pc := 54) (v := (1 : Int32)) (mx_dd dd_X12_runsPipes 32 (54, .iconst 1, 1) rfl) (by decide) ?_
    refine mx_icmp_ne (pc := 55) 78 (mx_dd dd_X12_runsPipes 33 (55, .if_icmp .ne 23, 3) rfl) rfl (fun c55 => ?_) (fun c55 => ?_)
    · have P := P.1 c55
      exact mx_return (pc := 78) (mx_dd dd_X12_runsPipes 45 (78, .return_, 1) rfl) rfl P
    · have P := P.2 c55
      refine mx_aload_n (pc := 58) 0 (mx_dd dd_X12_runsPipes 34 (58, .aload_n 0, 1) rfl) rfl rfl ?_
      refine mx_iload_n (pc := 59) 1 (mx_dd dd_X12_runsPipes 35 (59, .iload_n 1, 1) rfl) rfl rfl ?_
      refine mx_bipush (pc := 60) (v := (33 : Int32)) (mx_dd dd_X12_runsPipes 36 (60, .bipush 33, 2) rfl) (by decide) ?_
      refine mx_aload_n (pc := 62) 0 (mx_dd dd_X12_runsPipes 37 (62, .aload_n 0, 1) rfl) rfl rfl ?_
      refine mx_iload_n (pc := 63) 1 (mx_dd dd_X12_runsPipes 38 (63, .iload_n 1, 1) rfl) rfl rfl ?_
      refine mx_cVI (pc := 64) (Y := mY_X12_statusOf) (As := [.int _]) mx_ml_X12_477 mx_y_X12_statusOf rfl g3 (by decide) rfl (by simp [Value.category]) rfl (mx_dd dd_X12_runsPipes 39 (64, .invokevirtual 477, 3) rfl) g1 (by decide) P (fun v2 h2 P => ?_)
      refine mx_if_ne (pc := 67) 74 (mx_dd dd_X12_runsPipes 40 (67, .ifCond .ne 7, 3) rfl) rfl (fun c67 => ?_) (fun c67 => ?_)
      · have P := P.1 c67
        refine mx_iconst (pc := 74) (v := (0 : Int32)) (mx_dd dd_X12_runsPipes 43 (74, .iconst 0, 1) rfl) (by decide) ?_
        obtain ⟨g7, P⟩ := P
        refine mx_cVV (pc := 75) (Y := mY_X12_sets) (As := [.int _, .int _, .int _]) mx_ml_X12_419 mx_y_X12_sets rfl g7 (by decide) rfl (by decide) rfl (mx_dd dd_X12_runsPipes 44 (75, .invokevirtual 419, 3) rfl) g1 (by decide) P (fun h3 P => ?_)
        exact mx_return (pc := 78) (mx_dd dd_X12_runsPipes 45 (78, .return_, 1) rfl) rfl P
      · have P := P.2 c67
        refine mx_iconst (pc := 70) (v := (1 : Int32)) (mx_dd dd_X12_runsPipes 41 (70, .iconst 1, 1) rfl) (by decide) ?_
        refine mx_goto (pc := 71) 75 (mx_dd dd_X12_runsPipes 42 (71, .goto 4, 3) rfl) rfl ?_
        obtain ⟨g8, P⟩ := P
        refine mx_cVV (pc := 75) (Y := mY_X12_sets) (As := [.int _, .int _, .int _]) mx_ml_X12_419 mx_y_X12_sets rfl g8 (by decide) rfl (by decide) rfl (mx_dd dd_X12_runsPipes 44 (75, .invokevirtual 419, 3) rfl) g1 (by decide) P (fun h4 P => ?_)
        exact mx_return (pc := 78) (mx_dd dd_X12_runsPipes 45 (78, .return_, 1) rfl) rfl P
theorem b_X12_runsSeveral {d : Nat} {h : mxH} {Q : mxRes → mxH → Prop} (x0 : Nat) (x1 : Int32) (x2 : Int32)
    (P : hpK h x0 = 12 ∧ mx_SX mY_X12_runsSeveral d 17 [(0, .ref x0), (1, .int x1), (3, .int (hpI h x0 69)), (4, .int (0 : Int32)), (5, .int (0 : Int32)), (6, .int (-1 : Int32)), (7, .int x2)] [] h Q) : mx_SM mY_X12_runsSeveral d [.ref x0, .int x1, .int x2] h Q := by
  refine mx_SM_of (by decide) (Nat.le_of_ble_eq_true rfl) ?_
  show mx_SX mY_X12_runsSeveral d 0 [(0, .ref x0), (1, .int x1), (2, .int x2)] [] h Q
  refine mx_aload_n (pc := 0) 0 (mx_dd dd_X12_runsSeveral_0 0 (0, .aload_n 0, 1) rfl) rfl rfl ?_
  obtain ⟨g1, P⟩ := P
  refine mx_getI (pc := 1) mx_fl_X12_374 g1 rfl (mx_dd dd_X12_runsSeveral_0 1 (1, .getfield 374, 3) rfl) ?_
  refine mx_istore_n (pc := 4) (mx_dd dd_X12_runsSeveral_0 2 (4, .istore_n 3, 1) rfl) rfl (by decide) (lv' := [(3, _), (0, _), (1, _), (2, _)]) rfl ?_
  refine mx_iconst (pc := 5) (v := (0 : Int32)) (mx_dd dd_X12_runsSeveral_0 3 (5, .iconst 0, 1) rfl) (by decide) ?_
  refine mx_istore (pc := 6) (mx_dd dd_X12_runsSeveral_0 4 (6, .istore 4, 2) rfl) (by decide) (lv' := [(4, _), (3, _), (0, _), (1, _), (2, _)]) rfl ?_
  refine mx_iconst (pc := 8) (v := (0 : Int32)) (mx_dd dd_X12_runsSeveral_0 5 (8, .iconst 0, 1) rfl) (by decide) ?_
  refine mx_istore (pc := 9) (mx_dd dd_X12_runsSeveral_0 6 (9, .istore 5, 2) rfl) (by decide) (lv' := [(5, _), (4, _), (3, _), (0, _), (1, _), (2, _)]) rfl ?_
  refine mx_iconst (pc := 11) (v := (-1 : Int32)) (mx_dd dd_X12_runsSeveral_0 7 (11, .iconst (-1), 1) rfl) (by decide) ?_
  refine mx_istore (pc := 12) (mx_dd dd_X12_runsSeveral_0 8 (12, .istore 6, 2) rfl) (by decide) (lv' := [(6, _), (5, _), (4, _), (3, _), (0, _), (1, _), (2, _)]) rfl ?_
  refine mx_iload_n (pc := 14) 6 (mx_dd dd_X12_runsSeveral_0 9 (14, .iload_n 2, 1) rfl) rfl rfl ?_
  refine mx_istore (pc := 15) (mx_dd dd_X12_runsSeveral_0 10 (15, .istore 7, 2) rfl) (by decide) (lv' := [(7, _), (6, _), (5, _), (4, _), (3, _), (0, _), (1, _), (2, _)]) rfl ?_
  refine mx_sel [5, 6, 4, 3, 2, 1, 0] rfl ?_
  exact P
theorem b_X12_runsSeveral_17 {d : Nat} {h : mxH} {Q : mxRes → mxH → Prop} (x0 : Nat) (x1 : Int32) (x3 : Int32) (x4 : Int32) (x5 : Int32) (x6 : Int32) (x7 : Int32)
    (P : ((x7 = (-1 : Int32) → mx_SX mY_X12_runsSeveral d 204 [(0, .ref x0), (1, .int x1), (3, .int x3), (4, .int x4), (5, .int x5)] [] h Q) ∧ (¬ x7 = (-1 : Int32) → 1 ≤ d ∧ hpK h x0 = 12 ∧ mx_SM mY_X12_isStoppedNow (d - 1) [.ref x0] h (mx_KI (fun v1 h1 => ((¬ v1 = 0 → mx_SX mY_X12_runsSeveral d 204 [(0, .ref x0), (1, .int x1), (3, .int x3), (4, .int x4), (5, .int x5)] [] h1 Q) ∧ (v1 = 0 → hpK h1 x0 = 12 ∧ mx_SM mY_X12_fork (d - 1) [.ref x0, .int x1] h1 (mx_KI (fun v2 h2 => ((x6 = (-1 : Int32) → mx_SX mY_X12_runsSeveral d 65 [(0, .ref x0), (1, .int x1), (3, .int x3), (5, .int x5), (6, .int x6), (7, .int x7), (8, .int v2), (9, .int (-1 : Int32))] [] h2 Q) ∧ (¬ x6 = (-1 : Int32) → hpK h2 x0 = 12 ∧ ∃ b1 : Nat, hpR h2 x0 68 = some b1 ∧ hpK h2 b1 = 14 ∧ vp_in ((hpI h2 x0 69) - (1 : Int32)) (hpZ h2 b1) ∧ mx_SM mY_X12_sets (d - 1) [.ref x0, .int v2, .int (36 : Int32), .int (hpI h2 b1 ((hpI h2 x0 69) - (1 : Int32)).toNatClampNeg)] h2 (mx_KV (fun h3 => mx_SX mY_X12_runsSeveral d 65 [(0, .ref x0), (1, .int x1), (3, .int x3), (5, .int x5), (6, .int x6), (7, .int x7), (8, .int v2), (9, .int (-1 : Int32))] [] h3 Q) (mx_XX mY_X12_runsSeveral Q))))) (mx_XX mY_X12_runsSeveral Q))))) (mx_XX mY_X12_runsSeveral Q))))) : mx_SX mY_X12_runsSeveral d 17 [(0, .ref x0), (1, .int x1), (3, .int x3), (4, .int x4), (5, .int x5), (6, .int x6), (7, .int x7)] [] h Q := by
  refine mx_iload (pc := 17) 6 (mx_dd dd_X12_runsSeveral_0 11 (17, .iload 7, 2) rfl) rfl ?_
  refine mx_iconst (pc := 19) (v := (-1 : Int32)) (mx_dd dd_X12_runsSeveral_0 12 (19, .iconst (-1), 1) rfl) (by decide) ?_
  refine mx_icmp_eq (pc := 20) 204 (mx_dd dd_X12_runsSeveral_0 13 (20, .if_icmp .eq 184, 3) rfl) rfl (fun c20 => ?_) (fun c20 => ?_)
  · have P := P.1 c20
    refine mx_sel [0, 1, 2, 3, 4] rfl ?_
    exact P
  · have P := P.2 c20
    refine mx_aload_n (pc := 23) 0 (mx_dd dd_X12_runsSeveral_0 14 (23, .aload_n 0, 1) rfl) rfl rfl ?_
    obtain ⟨g1, P⟩ := P
    obtain ⟨g2, P⟩ := P
    refine mx_cVI (pc := 24) (Y := mY_X12_isStoppedNow) (As := []) mx_ml_X12_465 mx_y_X12_isStoppedNow rfl g2 (by decide) rfl (by decide) rfl (mx_dd dd_X12_runsSeveral_0 15 (24, .invokevirtual 465, 3) rfl) g1 (by decide) P (fun v1 h1 P => ?_)
    refine mx_if_ne (pc := 27) 204 (mx_dd dd_X12_runsSeveral_0 16 (27, .ifCond .ne 177, 3) rfl) rfl (fun c27 => ?_) (fun c27 => ?_)
    · have P := P.1 c27
      refine mx_sel [0, 1, 2, 3, 4] rfl ?_
      exact P
    · have P := P.2 c27
      refine mx_aload_n (pc := 30) 0 (mx_dd dd_X12_runsSeveral_0 17 (30, .aload_n 0, 1) rfl) rfl rfl ?_
      refine mx_iload_n (pc := 31) 1 (mx_dd dd_X12_runsSeveral_0 18 (31, .iload_n 1, 1) rfl) rfl rfl ?_
      obtain ⟨g3, P⟩ := P
      refine mx_cVI (pc := 32) (Y := mY_X12_fork) (As := [.int _]) mx_ml_X12_489 mx_y_X12_fork rfl g3 (by decide) rfl (by decide) rfl (mx_dd dd_X12_runsSeveral_0 19 (32, .invokevirtual 489, 3) rfl) g1 (by decide) P (fun v2 h2 P => ?_)
      refine mx_istore (pc := 35) (mx_dd dd_X12_runsSeveral_0 20 (35, .istore 8, 2) rfl) (by decide) (lv' := [(8, _), (0, _), (1, _), (3, _), (4, _), (5, _), (6, _), (7, _)]) rfl ?_
      refine mx_iconst (pc := 37) (v := (-1 : Int32)) (mx_dd dd_X12_runsSeveral_0 21 (37, .iconst (-1), 1) rfl) (by decide) ?_
      refine mx_istore (pc := 38) (mx_dd dd_X12_runsSeveral_0 22 (38, .istore 9, 2) rfl) (by decide) (lv' := [(9, _), (8, _), (0, _), (1, _), (3, _), (4, _), (5, _), (6, _), (7, _)]) rfl ?_
      refine mx_iload (pc := 40) 7 (mx_dd dd_X12_runsSeveral_0 23 (40, .iload 6, 2) rfl) rfl ?_
      refine mx_iconst (pc := 42) (v := (-1 : Int32)) (mx_dd dd_X12_runsSeveral_0 24 (42, .iconst (-1), 1) rfl) (by decide) ?_
      refine mx_icmp_eq (pc := 43) 65 (mx_dd dd_X12_runsSeveral_0 25 (43, .if_icmp .eq 22, 3) rfl) rfl (fun c43 => ?_) (fun c43 => ?_)
      · have P := P.1 c43
        refine mx_sel [2, 3, 4, 6, 7, 8, 1, 0] rfl ?_
        exact P
      · have P := P.2 c43
        refine mx_aload_n (pc := 46) 2 (mx_dd dd_X12_runsSeveral_0 26 (46, .aload_n 0, 1) rfl) rfl rfl ?_
        refine mx_iload (pc := 47) 1 (mx_dd dd_X12_runsSeveral_0 27 (47, .iload 8, 2) rfl) rfl ?_
        refine mx_bipush (pc := 49) (v := (36 : Int32)) (mx_dd dd_X12_runsSeveral_0 28 (49, .bipush 36, 2) rfl) (by decide) ?_
        refine mx_aload_n (pc := 51) 2 (mx_dd dd_X12_runsSeveral_0 29 (51, .aload_n 0, 1) rfl) rfl rfl ?_
        obtain ⟨g4, P⟩ := P
        obtain ⟨b1, g5, P⟩ := P
        refine mx_getR (pc := 52) mx_fl_X12_377 g4 rfl g5 (mx_dd dd_X12_runsSeveral_0 30 (52, .getfield 377, 3) rfl) ?_
        refine mx_aload_n (pc := 55) 2 (mx_dd dd_X12_runsSeveral_0 31 (55, .aload_n 0, 1) rfl) rfl rfl ?_
        refine mx_getI (pc := 56) mx_fl_X12_374 g4 rfl (mx_dd dd_X12_runsSeveral_0 32 (56, .getfield 374, 3) rfl) ?_
        refine mx_iconst (pc := 59) (v := (1 : Int32)) (mx_dd dd_X12_runsSeveral_0 33 (59, .iconst 1, 1) rfl) (by decide) ?_
        refine mx_isub (pc := 60) (mx_dd dd_X12_runsSeveral_0 34 (60, .isub, 1) rfl) ?_
        obtain ⟨g6, P⟩ := P
        obtain ⟨g7, P⟩ := P
        refine mx_iald (pc := 61) g6 g7 (mx_dd dd_X12_runsSeveral_0 35 (61, .iaload, 1) rfl) ?_
        refine mx_cVV (pc := 62) (Y := mY_X12_sets) (As := [.int _, .int _, .int _]) mx_ml_X12_419 mx_y_X12_sets rfl g4 (by decide) rfl (by decide) rfl (mx_dd dd_X12_runsSeveral_0 36 (62, .invokevirtual 419, 3) rfl) g1 (by decide) P (fun h3 P => ?_)
        refine mx_sel [2, 3, 4, 6, 7, 8, 1, 0] rfl ?_
        exact P
theorem b_X12_runsSeveral_65 {d : Nat} {h : mxH} {Q : mxRes → mxH → Prop} (x0 : Nat) (x1 : Int32) (x3 : Int32) (x5 : Int32) (x6 : Int32) (x7 : Int32) (x8 : Int32) (x9 : Int32)
    (P : hpK h x0 = 12 ∧ ∃ b1 : Nat, hpR h x0 38 = some b1 ∧ hpK h b1 = 14 ∧ vp_in x7 (hpZ h b1) ∧ (((hpI h b1 x7.toNatClampNeg) = (-1 : Int32) → mx_SX mY_X12_runsSeveral d 124 [(0, .ref x0), (1, .int x1), (3, .int x3), (5, .int x5), (6, .int x6), (7, .int x7), (8, .int x8), (9, .int x9)] [] h Q) ∧ (¬ (hpI h b1 x7.toNatClampNeg) = (-1 : Int32) → 1 ≤ d ∧ mx_SM mY_X12_pipe (d - 1) [.ref x0] h (mx_KI (fun v1 h1 => hpK h1 x0 = 12 ∧ mx_SM mY_X12_opened (d - 1) [.ref x0, .int (6 : Int32), .int v1] h1 (mx_KI (fun v2 h2 => hpK h2 x0 = 12 ∧ mx_SM mY_X12_sets (d - 1) [.ref x0, .int x8, .int (37 : Int32), .int v2] h2 (mx_KV (fun h3 => hpK h3 x0 = 12 ∧ ∃ b2 : Nat, hpR h3 x0 68 = some b2 ∧ mx_SM mY_X12_opened (d - 1) [.ref x0, .int (5 : Int32), .int v1] h3 (mx_KI (fun v3 h4 => hpK h4 b2 = 14 ∧ vp_in (hpI h3 x0 69) (hpZ h4 b2) ∧ ∀ h5 : mxH, h5 = hsI h4 b2 (hpI h3 x0 69).toNatClampNeg v3 → hpK h5 x0 = 12 ∧ ∀ h6 : mxH, h6 = hsI h5 x0 69 ((hpI h5 x0 69) + (1 : Int32)) → mx_SX mY_X12_runsSeveral d 124 [(0, .ref x0), (1, .int x1), (3, .int x3), (5, .int x5), (6, .int x6), (7, .int x7), (8, .int x8), (9, .int v1)] [] h6 Q) (mx_XX mY_X12_runsSeveral Q))) (mx_XX mY_X12_runsSeveral Q))) (mx_XX mY_X12_runsSeveral Q))) (mx_XX mY_X12_runsSeveral Q))))) : mx_SX mY_X12_runsSeveral d 65 [(0, .ref x0), (1, .int x1), (3, .int x3), (5, .int x5), (6, .int x6), (7, .int x7), (8, .int x8), (9, .int x9)] [] h Q := by
  refine mx_aload_n (pc := 65) 0 (mx_dd dd_X12_runsSeveral_0 37 (65, .aload_n 0, 1) rfl) rfl rfl ?_
  obtain ⟨g1, P⟩ := P
  obtain ⟨b1, g2, P⟩ := P
  refine mx_getR (pc := 66) mx_fl_X12_293 g1 rfl g2 (mx_dd dd_X12_runsSeveral_0 38 (66, .getfield 293, 3) rfl) ?_
  refine mx_iload (pc := 69) 5 (mx_dd dd_X12_runsSeveral_0 39 (69, .iload 7, 2) rfl) rfl ?_
  obtain ⟨g3, P⟩ := P
  obtain ⟨g4, P⟩ := P
  refine mx_iald (pc := 71) g3 g4 (mx_dd dd_X12_runsSeveral_1 0 (71, .iaload, 1) rfl) ?_
  refine mx_iconst (pc := 72) (v := (-1 : Int32)) (mx_dd dd_X12_runsSeveral_1 1 (72, .iconst (-1), 1) rfl) (by decide) ?_
  refine mx_icmp_eq (pc := 73) 124 (mx_dd dd_X12_runsSeveral_1 2 (73, .if_icmp .eq 51, 3) rfl) rfl (fun c73 => ?_) (fun c73 => ?_)
  · have P := P.1 c73
    exact P
  · have P := P.2 c73
    refine mx_aload_n (pc := 76) 0 (mx_dd dd_X12_runsSeveral_1 3 (76, .aload_n 0, 1) rfl) rfl rfl ?_
    obtain ⟨g5, P⟩ := P
    refine mx_cVI (pc := 77) (Y := mY_X12_pipe) (As := []) mx_ml_X12_492 mx_y_X12_pipe rfl g1 (by decide) rfl (by decide) rfl (mx_dd dd_X12_runsSeveral_1 4 (77, .invokevirtual 492, 3) rfl) g5 (by decide) P (fun v1 h1 P => ?_)
    refine mx_istore (pc := 80) (mx_dd dd_X12_runsSeveral_1 5 (80, .istore 9, 2) rfl) (by decide) (lv' := [(9, _), (0, _), (1, _), (3, _), (5, _), (6, _), (7, _), (8, _)]) rfl ?_
    refine mx_aload_n (pc := 82) 1 (mx_dd dd_X12_runsSeveral_1 6 (82, .aload_n 0, 1) rfl) rfl rfl ?_
    refine mx_iload (pc := 83) 7 (mx_dd dd_X12_runsSeveral_1 7 (83, .iload 8, 2) rfl) rfl ?_
    refine mx_bipush (pc := 85) (v := (37 : Int32)) (mx_dd dd_X12_runsSeveral_1 8 (85, .bipush 37, 2) rfl) (by decide) ?_
    refine mx_aload_n (pc := 87) 1 (mx_dd dd_X12_runsSeveral_1 9 (87, .aload_n 0, 1) rfl) rfl rfl ?_
    refine mx_bipush (pc := 88) (v := (6 : Int32)) (mx_dd dd_X12_runsSeveral_1 10 (88, .bipush 6, 2) rfl) (by decide) ?_
    refine mx_iload (pc := 90) 0 (mx_dd dd_X12_runsSeveral_1 11 (90, .iload 9, 2) rfl) rfl ?_
    obtain ⟨g6, P⟩ := P
    refine mx_cVI (pc := 92) (Y := mY_X12_opened) (As := [.int _, .int _]) mx_ml_X12_410 mx_y_X12_opened rfl g6 (by decide) rfl (by simp [Value.category]) rfl (mx_dd dd_X12_runsSeveral_1 12 (92, .invokevirtual 410, 3) rfl) g5 (by decide) P (fun v2 h2 P => ?_)
    obtain ⟨g7, P⟩ := P
    refine mx_cVV (pc := 95) (Y := mY_X12_sets) (As := [.int _, .int _, .int _]) mx_ml_X12_419 mx_y_X12_sets rfl g7 (by decide) rfl (by decide) rfl (mx_dd dd_X12_runsSeveral_1 13 (95, .invokevirtual 419, 3) rfl) g5 (by decide) P (fun h3 P => ?_)
    refine mx_aload_n (pc := 98) 1 (mx_dd dd_X12_runsSeveral_1 14 (98, .aload_n 0, 1) rfl) rfl rfl ?_
    obtain ⟨g8, P⟩ := P
    obtain ⟨b2, g9, P⟩ := P
    refine mx_getR (pc := 99) mx_fl_X12_377 g8 rfl g9 (mx_dd dd_X12_runsSeveral_1 15 (99, .getfield 377, 3) rfl) ?_
    refine mx_aload_n (pc := 102) 1 (mx_dd dd_X12_runsSeveral_1 16 (102, .aload_n 0, 1) rfl) rfl rfl ?_
    refine mx_getI (pc := 103) mx_fl_X12_374 g8 rfl (mx_dd dd_X12_runsSeveral_1 17 (103, .getfield 374, 3) rfl) ?_
    refine mx_aload_n (pc := 106) 1 (mx_dd dd_X12_runsSeveral_1 18 (106, .aload_n 0, 1) rfl) rfl rfl ?_
    refine mx_iconst (pc := 107) (v := (5 : Int32)) (mx_dd dd_X12_runsSeveral_1 19 (107, .iconst 5, 1) rfl) (by decide) ?_
    refine mx_iload (pc := 108) 0 (mx_dd dd_X12_runsSeveral_1 20 (108, .iload 9, 2) rfl) rfl ?_
    refine mx_cVI (pc := 110) (Y := mY_X12_opened) (As := [.int _, .int _]) mx_ml_X12_410 mx_y_X12_opened rfl g8 (by decide) rfl (by simp [Value.category]) rfl (mx_dd dd_X12_runsSeveral_1 21 (110, .invokevirtual 410, 3) rfl) g5 (by decide) P (fun v3 h4 P => ?_)
    obtain ⟨g10, P⟩ := P
    obtain ⟨g11, P⟩ := P
    refine mx_iast (pc := 113) g10 g11 (mx_dd dd_X12_runsSeveral_1 22 (113, .iastore, 1) rfl) ?_
    have P := P _ rfl
    refine mx_aload_n (pc := 114) 1 (mx_dd dd_X12_runsSeveral_1 23 (114, .aload_n 0, 1) rfl) rfl rfl ?_
    refine mx_dup (pc := 115) (mx_dd dd_X12_runsSeveral_1 24 (115, .dup, 1) rfl) rfl ?_
    obtain ⟨g12, P⟩ := P
    refine mx_getI (pc := 116) mx_fl_X12_374 g12 rfl (mx_dd dd_X12_runsSeveral_1 25 (116, .getfield 374, 3) rfl) ?_
    refine mx_iconst (pc := 119) (v := (1 : Int32)) (mx_dd dd_X12_runsSeveral_1 26 (119, .iconst 1, 1) rfl) (by decide) ?_
    refine mx_iadd (pc := 120) (mx_dd dd_X12_runsSeveral_1 27 (120, .iadd, 1) rfl) ?_
    refine mx_putI (pc := 121) mx_fl_X12_374 g12 rfl (.inl rfl) rfl rfl (mx_dd dd_X12_runsSeveral_1 28 (121, .putfield 374, 3) rfl) ?_
    have P := P _ rfl
    refine mx_sel [1, 2, 3, 4, 5, 6, 7, 0] rfl ?_
    exact P
theorem b_X12_runsSeveral_124 {d : Nat} {h : mxH} {Q : mxRes → mxH → Prop} (x0 : Nat) (x1 : Int32) (x3 : Int32) (x5 : Int32) (x6 : Int32) (x7 : Int32) (x8 : Int32) (x9 : Int32)
    (P : 1 ≤ d ∧ hpK h x0 = 12 ∧ mx_SM mY_X12_runsCommand (d - 1) [.ref x0, .int x8, .int x7] h (mx_KV (fun h1 => hpK h1 x0 = 12 ∧ mx_SM mY_X12_isStoppedNow (d - 1) [.ref x0] h1 (mx_KI (fun v1 h2 => ((¬ v1 = 0 → mx_SX mY_X12_runsSeveral d 145 [(0, .ref x0), (1, .int x1), (3, .int x3), (5, .int x5), (6, .int x6), (7, .int x7), (8, .int x8), (9, .int x9)] [] h2 Q) ∧ (v1 = 0 → hpK h2 x0 = 12 ∧ mx_SM mY_X12_finishes (d - 1) [.ref x0, .int x8] h2 (mx_KV (fun h3 => mx_SX mY_X12_runsSeveral d 145 [(0, .ref x0), (1, .int x1), (3, .int x3), (5, .int x5), (6, .int x6), (7, .int x7), (8, .int x8), (9, .int x9)] [] h3 Q) (mx_XX mY_X12_runsSeveral Q))))) (mx_XX mY_X12_runsSeveral Q))) (mx_XX mY_X12_runsSeveral Q))) : mx_SX mY_X12_runsSeveral d 124 [(0, .ref x0), (1, .int x1), (3, .int x3), (5, .int x5), (6, .int x6), (7, .int x7), (8, .int x8), (9, .int x9)] [] h Q := by
  refine mx_aload_n (pc := 124) 0 (mx_dd dd_X12_runsSeveral_1 29 (124, .aload_n 0, 1) rfl) rfl rfl ?_
  refine mx_iload (pc := 125) 6 (mx_dd dd_X12_runsSeveral_1 30 (125, .iload 8, 2) rfl) rfl ?_
  refine mx_iload (pc := 127) 5 (mx_dd dd_X12_runsSeveral_1 31 (127, .iload 7, 2) rfl) rfl ?_
  obtain ⟨g1, P⟩ := P
  obtain ⟨g2, P⟩ := P
  refine mx_cVV (pc := 129) (Y := mY_X12_runsCommand) (As := [.int _, .int _]) mx_ml_X12_483 mx_y_X12_runsCommand rfl g2 (by decide) rfl (by decide) rfl (mx_dd dd_X12_runsSeveral_1 32 (129, .invokevirtual 483, 3) rfl) g1 (by decide) P (fun h1 P => ?_)
  refine mx_aload_n (pc := 132) 0 (mx_dd dd_X12_runsSeveral_1 33 (132, .aload_n 0, 1) rfl) rfl rfl ?_
  obtain ⟨g3, P⟩ := P
  refine mx_cVI (pc := 133) (Y := mY_X12_isStoppedNow) (As := []) mx_ml_X12_465 mx_y_X12_isStoppedNow rfl g3 (by decide) rfl (by decide) rfl (mx_dd dd_X12_runsSeveral_1 34 (133, .invokevirtual 465, 3) rfl) g1 (by decide) P (fun v1 h2 P => ?_)
  refine mx_if_ne (pc := 136) 145 (mx_dd dd_X12_runsSeveral_1 35 (136, .ifCond .ne 9, 3) rfl) rfl (fun c136 => ?_) (fun c136 => ?_)
  · have P := P.1 c136
    exact P
  · have P := P.2 c136
    refine mx_aload_n (pc := 139) 0 (mx_dd dd_X12_runsSeveral_1 36 (139, .aload_n 0, 1) rfl) rfl rfl ?_
    refine mx_iload (pc := 140) 6 (mx_dd dd_X12_runsSeveral_1 37 (140, .iload 8, 2) rfl) rfl ?_
    obtain ⟨g4, P⟩ := P
    refine mx_cVV (pc := 142) (Y := mY_X12_finishes) (As := [.int _]) mx_ml_X12_495 mx_y_X12_finishes rfl g4 (by decide) rfl (by decide) rfl (mx_dd dd_X12_runsSeveral_1 38 (142, .invokevirtual 495, 3) rfl) g1 (by decide) P (fun h3 P => ?_)
    exact P
theorem b_X12_runsSeveral_145 {d : Nat} {h : mxH} {Q : mxRes → mxH → Prop} (x0 : Nat) (x1 : Int32) (x3 : Int32) (x5 : Int32) (x6 : Int32) (x7 : Int32) (x8 : Int32) (x9 : Int32)
    (P : 1 ≤ d ∧ hpK h x0 = 12 ∧ mx_SM mY_X12_statusOf (d - 1) [.ref x0, .int x8] h (mx_KI (fun v1 h1 => ((v1 = 0 → hpK h1 x0 = 12 ∧ mx_SM mY_X12_sets (d - 1) [.ref x0, .int x8, .int (82 : Int32), .int (0 : Int32)] h1 (mx_KV (fun h2 => ((x6 = (-1 : Int32) → mx_SX mY_X12_runsSeveral d 188 [(0, .ref x0), (1, .int x1), (3, .int x3), (4, .int v1), (5, .int x5), (7, .int x7), (9, .int x9)] [] h2 Q) ∧ (¬ x6 = (-1 : Int32) → hpK h2 x0 = 12 ∧ mx_SM mY_X12_closesPipe (d - 1) [.ref x0, .int x6] h2 (mx_KV (fun h3 => mx_SX mY_X12_runsSeveral d 188 [(0, .ref x0), (1, .int x1), (3, .int x3), (4, .int v1), (5, .int x5), (7, .int x7), (9, .int x9)] [] h3 Q) (mx_XX mY_X12_runsSeveral Q))))) (mx_XX mY_X12_runsSeveral Q))) ∧ (¬ v1 = 0 → hpK h1 x0 = 12 ∧ mx_SM mY_X12_sets (d - 1) [.ref x0, .int x8, .int (82 : Int32), .int (0 : Int32)] h1 (mx_KV (fun h4 => ((x6 = (-1 : Int32) → mx_SX mY_X12_runsSeveral d 188 [(0, .ref x0), (1, .int x1), (3, .int x3), (4, .int v1), (5, .int v1), (7, .int x7), (9, .int x9)] [] h4 Q) ∧ (¬ x6 = (-1 : Int32) → hpK h4 x0 = 12 ∧ mx_SM mY_X12_closesPipe (d - 1) [.ref x0, .int x6] h4 (mx_KV (fun h5 => mx_SX mY_X12_runsSeveral d 188 [(0, .ref x0), (1, .int x1), (3, .int x3), (4, .int v1), (5, .int v1), (7, .int x7), (9, .int x9)] [] h5 Q) (mx_XX mY_X12_runsSeveral Q))))) (mx_XX mY_X12_runsSeveral Q))))) (mx_XX mY_X12_runsSeveral Q))) : mx_SX mY_X12_runsSeveral d 145 [(0, .ref x0), (1, .int x1), (3, .int x3), (5, .int x5), (6, .int x6), (7, .int x7), (8, .int x8), (9, .int x9)] [] h Q := by
  refine mx_aload_n (pc := 145) 0 (mx_dd dd_X12_runsSeveral_1 39 (145, .aload_n 0, 1) rfl) rfl rfl ?_
  refine mx_iload (pc := 146) 6 (mx_dd dd_X12_runsSeveral_2 0 (146, .iload 8, 2) rfl) rfl ?_
  obtain ⟨g1, P⟩ := P
  obtain ⟨g2, P⟩ := P
  refine mx_cVI (pc := 148) (Y := mY_X12_statusOf) (As := [.int _]) mx_ml_X12_477 mx_y_X12_statusOf rfl g2 (by decide) rfl (by decide) rfl (mx_dd dd_X12_runsSeveral_2 1 (148, .invokevirtual 477, 3) rfl) g1 (by decide) P (fun v1 h1 P => ?_)
  refine mx_istore (pc := 151) (mx_dd dd_X12_runsSeveral_2 2 (151, .istore 4, 2) rfl) (by decide) (lv' := [(4, _), (0, _), (1, _), (3, _), (5, _), (6, _), (7, _), (8, _), (9, _)]) rfl ?_
  refine mx_iload (pc := 153) 0 (mx_dd dd_X12_runsSeveral_2 3 (153, .iload 4, 2) rfl) rfl ?_
  refine mx_if_eq (pc := 155) 163 (mx_dd dd_X12_runsSeveral_2 4 (155, .ifCond .eq 8, 3) rfl) rfl (fun c155 => ?_) (fun c155 => ?_)
  · have P := P.1 c155
    refine mx_iload (pc := 163) 4 (mx_dd dd_X12_runsSeveral_2 7 (163, .iload 5, 2) rfl) rfl ?_
    refine mx_istore (pc := 165) (mx_dd dd_X12_runsSeveral_2 8 (165, .istore 5, 2) rfl) (by decide) (lv' := [(5, _), (4, _), (0, _), (1, _), (3, _), (6, _), (7, _), (8, _), (9, _)]) rfl ?_
    refine mx_aload_n (pc := 167) 2 (mx_dd dd_X12_runsSeveral_2 9 (167, .aload_n 0, 1) rfl) rfl rfl ?_
    refine mx_iload (pc := 168) 7 (mx_dd dd_X12_runsSeveral_2 10 (168, .iload 8, 2) rfl) rfl ?_
    refine mx_bipush (pc := 170) (v := (82 : Int32)) (mx_dd dd_X12_runsSeveral_2 11 (170, .bipush 82, 2) rfl) (by decide) ?_
    refine mx_iconst (pc := 172) (v := (0 : Int32)) (mx_dd dd_X12_runsSeveral_2 12 (172, .iconst 0, 1) rfl) (by decide) ?_
    obtain ⟨g3, P⟩ := P
    refine mx_cVV (pc := 173) (Y := mY_X12_sets) (As := [.int _, .int _, .int _]) mx_ml_X12_419 mx_y_X12_sets rfl g3 (by decide) rfl (by decide) rfl (mx_dd dd_X12_runsSeveral_2 13 (173, .invokevirtual 419, 3) rfl) g1 (by decide) P (fun h2 P => ?_)
    refine mx_iload (pc := 176) 5 (mx_dd dd_X12_runsSeveral_2 14 (176, .iload 6, 2) rfl) rfl ?_
    refine mx_iconst (pc := 178) (v := (-1 : Int32)) (mx_dd dd_X12_runsSeveral_2 15 (178, .iconst (-1), 1) rfl) (by decide) ?_
    refine mx_icmp_eq (pc := 179) 188 (mx_dd dd_X12_runsSeveral_2 16 (179, .if_icmp .eq 9, 3) rfl) rfl (fun c179 => ?_) (fun c179 => ?_)
    · have P := P.1 c179
      refine mx_sel [2, 3, 4, 1, 0, 6, 8] rfl ?_
      exact P
    · have P := P.2 c179
      refine mx_aload_n (pc := 182) 2 (mx_dd dd_X12_runsSeveral_2 17 (182, .aload_n 0, 1) rfl) rfl rfl ?_
      refine mx_iload (pc := 183) 5 (mx_dd dd_X12_runsSeveral_2 18 (183, .iload 6, 2) rfl) rfl ?_
      obtain ⟨g4, P⟩ := P
      refine mx_cVV (pc := 185) (Y := mY_X12_closesPipe) (As := [.int _]) mx_ml_X12_498 mx_y_X12_closesPipe rfl g4 (by decide) rfl (by decide) rfl (mx_dd dd_X12_runsSeveral_2 19 (185, .invokevirtual 498, 3) rfl) g1 (by decide) P (fun h3 P => ?_)
      refine mx_sel [2, 3, 4, 1, 0, 6, 8] rfl ?_
      exact P
  · have P := P.2 c155
    refine mx_iload (pc := 158) 0 (mx_dd dd_X12_runsSeveral_2 5 (158, .iload 4, 2) rfl) rfl ?_
    refine mx_goto (pc := 160) 165 (mx_dd dd_X12_runsSeveral_2 6 (160, .goto 5, 3) rfl) rfl ?_
    refine mx_istore (pc := 165) (mx_dd dd_X12_runsSeveral_2 8 (165, .istore 5, 2) rfl) (by decide) (lv' := [(5, _), (4, _), (0, _), (1, _), (3, _), (6, _), (7, _), (8, _), (9, _)]) rfl ?_
    refine mx_aload_n (pc := 167) 2 (mx_dd dd_X12_runsSeveral_2 9 (167, .aload_n 0, 1) rfl) rfl rfl ?_
    refine mx_iload (pc := 168) 7 (mx_dd dd_X12_runsSeveral_2 10 (168, .iload 8, 2) rfl) rfl ?_
    refine mx_bipush (pc := 170) (v := (82 : Int32)) (mx_dd dd_X12_runsSeveral_2 11 (170, .bipush 82, 2) rfl) (by decide) ?_
    refine mx_iconst (pc := 172) (v := (0 : Int32)) (mx_dd dd_X12_runsSeveral_2 12 (172, .iconst 0, 1) rfl) (by decide) ?_
    obtain ⟨g5, P⟩ := P
    refine mx_cVV (pc := 173) (Y := mY_X12_sets) (As := [.int _, .int _, .int _]) mx_ml_X12_419 mx_y_X12_sets rfl g5 (by decide) rfl (by decide) rfl (mx_dd dd_X12_runsSeveral_2 13 (173, .invokevirtual 419, 3) rfl) g1 (by decide) P (fun h4 P => ?_)
    refine mx_iload (pc := 176) 5 (mx_dd dd_X12_runsSeveral_2 14 (176, .iload 6, 2) rfl) rfl ?_
    refine mx_iconst (pc := 178) (v := (-1 : Int32)) (mx_dd dd_X12_runsSeveral_2 15 (178, .iconst (-1), 1) rfl) (by decide) ?_
    refine mx_icmp_eq (pc := 179) 188 (mx_dd dd_X12_runsSeveral_2 16 (179, .if_icmp .eq 9, 3) rfl) rfl (fun c179 => ?_) (fun c179 => ?_)
    · have P := P.1 c179
      refine mx_sel [2, 3, 4, 1, 0, 6, 8] rfl ?_
      exact P
    · have P := P.2 c179
      refine mx_aload_n (pc := 182) 2 (mx_dd dd_X12_runsSeveral_2 17 (182, .aload_n 0, 1) rfl) rfl rfl ?_
      refine mx_iload (pc := 183) 5 (mx_dd dd_X12_runsSeveral_2 18 (183, .iload 6, 2) rfl) rfl ?_
      obtain ⟨g6, P⟩ := P
      refine mx_cVV (pc := 185) (Y := mY_X12_closesPipe) (As := [.int _]) mx_ml_X12_498 mx_y_X12_closesPipe rfl g6 (by decide) rfl (by decide) rfl (mx_dd dd_X12_runsSeveral_2 19 (185, .invokevirtual 498, 3) rfl) g1 (by decide) P (fun h5 P => ?_)
      refine mx_sel [2, 3, 4, 1, 0, 6, 8] rfl ?_
      exact P
theorem b_X12_runsSeveral_188 {d : Nat} {h : mxH} {Q : mxRes → mxH → Prop} (x0 : Nat) (x1 : Int32) (x3 : Int32) (x4 : Int32) (x5 : Int32) (x7 : Int32) (x9 : Int32)
    (P : hpK h x0 = 12 ∧ ∃ b1 : Nat, hpR h x0 38 = some b1 ∧ hpK h b1 = 14 ∧ vp_in x7 (hpZ h b1) ∧ mx_SX mY_X12_runsSeveral d 17 [(0, .ref x0), (1, .int x1), (3, .int x3), (4, .int x4), (5, .int x5), (6, .int x9), (7, .int (hpI h b1 x7.toNatClampNeg))] [] h Q) : mx_SX mY_X12_runsSeveral d 188 [(0, .ref x0), (1, .int x1), (3, .int x3), (4, .int x4), (5, .int x5), (7, .int x7), (9, .int x9)] [] h Q := by
  refine mx_iload (pc := 188) 6 (mx_dd dd_X12_runsSeveral_2 20 (188, .iload 9, 2) rfl) rfl ?_
  refine mx_istore (pc := 190) (mx_dd dd_X12_runsSeveral_2 21 (190, .istore 6, 2) rfl) (by decide) (lv' := [(6, _), (0, _), (1, _), (3, _), (4, _), (5, _), (7, _), (9, _)]) rfl ?_
  refine mx_aload_n (pc := 192) 1 (mx_dd dd_X12_runsSeveral_2 22 (192, .aload_n 0, 1) rfl) rfl rfl ?_
  obtain ⟨g1, P⟩ := P
  obtain ⟨b1, g2, P⟩ := P
  refine mx_getR (pc := 193) mx_fl_X12_293 g1 rfl g2 (mx_dd dd_X12_runsSeveral_2 23 (193, .getfield 293, 3) rfl) ?_
  refine mx_iload (pc := 196) 6 (mx_dd dd_X12_runsSeveral_2 24 (196, .iload 7, 2) rfl) rfl ?_
  obtain ⟨g3, P⟩ := P
  obtain ⟨g4, P⟩ := P
  refine mx_iald (pc := 198) g3 g4 (mx_dd dd_X12_runsSeveral_2 25 (198, .iaload, 1) rfl) ?_
  refine mx_istore (pc := 199) (mx_dd dd_X12_runsSeveral_2 26 (199, .istore 7, 2) rfl) (by decide) (lv' := [(7, _), (6, _), (0, _), (1, _), (3, _), (4, _), (5, _), (9, _)]) rfl ?_
  refine mx_goto (pc := 201) 17 (mx_dd dd_X12_runsSeveral_2 27 (201, .goto (-184), 3) rfl) rfl ?_
  refine mx_sel [2, 3, 4, 5, 6, 1, 0] rfl ?_
  exact P
theorem b_X12_runsSeveral_204 {d : Nat} {h : mxH} {Q : mxRes → mxH → Prop} (x0 : Nat) (x1 : Int32) (x3 : Int32) (x4 : Int32) (x5 : Int32)
    (P : hpK h x0 = 12 ∧ ∀ h1 : mxH, h1 = hsI h x0 69 x3 → 1 ≤ d ∧ mx_SM mY_X12_isStoppedNow (d - 1) [.ref x0] h1 (mx_KI (fun v1 h2 => ((¬ v1 = 0 → Q (.inl none) h2) ∧ (v1 = 0 → hpK h2 x0 = 12 ∧ mx_SM mY_X12_of (d - 1) [.ref x0, .int x1, .int (32 : Int32)] h2 (mx_KI (fun v2 h3 => ((¬ v2 = (1 : Int32) → hpK h3 x0 = 12 ∧ mx_SM mY_X12_sets (d - 1) [.ref x0, .int x1, .int (33 : Int32), .int x4] h3 (mx_KV (fun h4 => Q (.inl none) h4) (mx_XX mY_X12_runsSeveral Q))) ∧ (v2 = (1 : Int32) → hpK h3 x0 = 12 ∧ mx_SM mY_X12_sets (d - 1) [.ref x0, .int x1, .int (33 : Int32), .int x5] h3 (mx_KV (fun h5 => Q (.inl none) h5) (mx_XX mY_X12_runsSeveral Q))))) (mx_XX mY_X12_runsSeveral Q))))) (mx_XX mY_X12_runsSeveral Q))) : mx_SX mY_X12_runsSeveral d 204 [(0, .ref x0), (1, .int x1), (3, .int x3), (4, .int x4), (5, .int x5)] [] h Q := by
  refine mx_aload_n (pc := 204) 0 (mx_dd dd_X12_runsSeveral_2 28 (204, .aload_n 0, 1) rfl) rfl rfl ?_
  refine mx_iload_n (pc := 205) 2 (mx_dd dd_X12_runsSeveral_2 29 (205, .iload_n 3, 1) rfl) rfl rfl ?_
  obtain ⟨g1, P⟩ := P
  refine mx_putI (pc := 206) mx_fl_X12_374 g1 rfl (.inl rfl) rfl rfl (mx_dd dd_X12_runsSeveral_2 30 (206, .putfield 374, 3) rfl) ?_
  have P := P _ rfl
  refine mx_aload_n (pc := 209) 0 (mx_dd dd_X12_runsSeveral_2 31 (209, .aload_n 0, 1) rfl) rfl rfl ?_
  obtain ⟨g2, P⟩ := P
  refine mx_cVI (pc := 210) (Y := mY_X12_isStoppedNow) (As := []) mx_ml_X12_465 mx_y_X12_isStoppedNow rfl g1 (by decide) rfl (by decide) rfl (mx_dd dd_X12_runsSeveral_2 32 (210, .invokevirtual 465, 3) rfl) g2 (by decide) P (fun v1 h2 P => ?_)
  refine mx_if_ne (pc := 213) 241 (mx_dd dd_X12_runsSeveral_2 33 (213, .ifCond .ne 28, 3) rfl) rfl (fun c213 => ?_) (fun c213 => ?_)
  · have P := P.1 c213
    exact mx_return (pc := 241) (mx_dd dd_X12_runsSeveral_3 7 (241, .return_, 1) rfl) rfl P
  · have P := P.2 c213
    refine mx_aload_n (pc := 216) 0 (mx_dd dd_X12_runsSeveral_2 34 (216, .aload_n 0, 1) rfl) rfl rfl ?_
    refine mx_iload_n (pc := 217) 1 (mx_dd dd_X12_runsSeveral_2 35 (217, .iload_n 1, 1) rfl) rfl rfl ?_
    refine mx_bipush (pc := 218) (v := (33 : Int32)) (mx_dd dd_X12_runsSeveral_2 36 (218, .bipush 33, 2) rfl) (by decide) ?_
    refine mx_aload_n (pc := 220) 0 (mx_dd dd_X12_runsSeveral_2 37 (220, .aload_n 0, 1) rfl) rfl rfl ?_
    refine mx_iload_n (pc := 221) 1 (mx_dd dd_X12_runsSeveral_2 38 (221, .iload_n 1, 1) rfl) rfl rfl ?_
    refine mx_bipush (pc := 222) (v := (32 : Int32)) (mx_dd dd_X12_runsSeveral_2 39 (222, .bipush 32, 2) rfl) (by decide) ?_
    obtain ⟨g3, P⟩ := P
    refine mx_cVI (pc := 224) (Y := mY_X12_of) (As := [.int _, .int _]) mx_ml_X12_416 mx_y_X12_of rfl g3 (by decide) rfl (by simp [Value.category]) rfl (mx_dd dd_X12_runsSeveral_3 0 (224, .invokevirtual 416, 3) rfl) g2 (by decide) P (fun v2 h3 P => ?_)
    refine mx_iconst (pc := 227) (v := (1 : Int32)) (mx_dd dd_X12_runsSeveral_3 1 (227, .iconst 1, 1) rfl) (by decide) ?_
    refine mx_icmp_ne (pc := 228) 236 (mx_dd dd_X12_runsSeveral_3 2 (228, .if_icmp .ne 8, 3) rfl) rfl (fun c228 => ?_) (fun c228 => ?_)
    · have P := P.1 c228
      refine mx_iload (pc := 236) 3 (mx_dd dd_X12_runsSeveral_3 5 (236, .iload 4, 2) rfl) rfl ?_
      obtain ⟨g4, P⟩ := P
      refine mx_cVV (pc := 238) (Y := mY_X12_sets) (As := [.int _, .int _, .int _]) mx_ml_X12_419 mx_y_X12_sets rfl g4 (by decide) rfl (by decide) rfl (mx_dd dd_X12_runsSeveral_3 6 (238, .invokevirtual 419, 3) rfl) g2 (by decide) P (fun h4 P => ?_)
      exact mx_return (pc := 241) (mx_dd dd_X12_runsSeveral_3 7 (241, .return_, 1) rfl) rfl P
    · have P := P.2 c228
      refine mx_iload (pc := 231) 4 (mx_dd dd_X12_runsSeveral_3 3 (231, .iload 5, 2) rfl) rfl ?_
      refine mx_goto (pc := 233) 238 (mx_dd dd_X12_runsSeveral_3 4 (233, .goto 5, 3) rfl) rfl ?_
      obtain ⟨g5, P⟩ := P
      refine mx_cVV (pc := 238) (Y := mY_X12_sets) (As := [.int _, .int _, .int _]) mx_ml_X12_419 mx_y_X12_sets rfl g5 (by decide) rfl (by decide) rfl (mx_dd dd_X12_runsSeveral_3 6 (238, .invokevirtual 419, 3) rfl) g2 (by decide) P (fun h5 P => ?_)
      exact mx_return (pc := 241) (mx_dd dd_X12_runsSeveral_3 7 (241, .return_, 1) rfl) rfl P
theorem b_X12_runsCommand {d : Nat} {h : mxH} {Q : mxRes → mxH → Prop} (x0 : Nat) (x1 : Int32) (x2 : Int32)
    (P : hpK h x0 = 12 ∧ ∃ b1 : Nat, hpR h x0 73 = some b1 ∧ hpK h b1 = 14 ∧ vp_in (0 : Int32) (hpZ h b1) ∧ ((¬ (hpI h b1 (0 : Int32).toNatClampNeg) = (300 : Int32) → ∀ h1 : mxH, h1 = hsI h b1 (0 : Int32).toNatClampNeg ((hpI h b1 (0 : Int32).toNatClampNeg) + (1 : Int32)) → mx_SX mY_X12_runsCommand d 38 [(0, .ref x0), (1, .int x1), (2, .int x2), (3, .int (hpI h1 x0 69)), (4, .int (0 : Int32))] [] h1 Q) ∧ ((hpI h b1 (0 : Int32).toNatClampNeg) = (300 : Int32) → vp_in (2 : Int32) (hpZ h b1) ∧ ∀ h2 : mxH, h2 = hsI h b1 (2 : Int32).toNatClampNeg (1 : Int32) → Q (.inl none) h2))) : mx_SM mY_X12_runsCommand d [.ref x0, .int x1, .int x2] h Q := by
  refine mx_SM_of (by decide) (Nat.le_of_ble_eq_true rfl) ?_
  show mx_SX mY_X12_runsCommand d 0 [(0, .ref x0), (1, .int x1), (2, .int x2)] [] h Q
  refine mx_aload_n (pc := 0) 0 (mx_dd dd_X12_runsCommand_0 0 (0, .aload_n 0, 1) rfl) rfl rfl ?_
  obtain ⟨g1, P⟩ := P
  obtain ⟨b1, g2, P⟩ := P
  refine mx_getR (pc := 1) mx_fl_X12_413 g1 rfl g2 (mx_dd dd_X12_runsCommand_0 1 (1, .getfield 413, 3) rfl) ?_
  refine mx_iconst (pc := 4) (v := (0 : Int32)) (mx_dd dd_X12_runsCommand_0 2 (4, .iconst 0, 1) rfl) (by decide) ?_
  obtain ⟨g3, P⟩ := P
  obtain ⟨g4, P⟩ := P
  refine mx_iald (pc := 5) g3 g4 (mx_dd dd_X12_runsCommand_0 3 (5, .iaload, 1) rfl) ?_
  refine mx_sipush (pc := 6) (v := (300 : Int32)) (mx_dd dd_X12_runsCommand_0 4 (6, .sipush 300, 3) rfl) (by decide) ?_
  refine mx_icmp_ne (pc := 9) 20 (mx_dd dd_X12_runsCommand_0 5 (9, .if_icmp .ne 11, 3) rfl) rfl (fun c9 => ?_) (fun c9 => ?_)
  · have P := P.1 c9
    refine mx_aload_n (pc := 20) 0 (mx_dd dd_X12_runsCommand_0 12 (20, .aload_n 0, 1) rfl) rfl rfl ?_
    refine mx_getR (pc := 21) mx_fl_X12_413 g1 rfl g2 (mx_dd dd_X12_runsCommand_0 13 (21, .getfield 413, 3) rfl) ?_
    refine mx_iconst (pc := 24) (v := (0 : Int32)) (mx_dd dd_X12_runsCommand_0 14 (24, .iconst 0, 1) rfl) (by decide) ?_
    refine mx_dup2 (pc := 25) (mx_dd dd_X12_runsCommand_0 15 (25, .dup2, 1) rfl) rfl rfl ?_
    refine mx_iald (pc := 26) g3 g4 (mx_dd dd_X12_runsCommand_0 16 (26, .iaload, 1) rfl) ?_
    refine mx_iconst (pc := 27) (v := (1 : Int32)) (mx_dd dd_X12_runsCommand_0 17 (27, .iconst 1, 1) rfl) (by decide) ?_
    refine mx_iadd (pc := 28) (mx_dd dd_X12_runsCommand_0 18 (28, .iadd, 1) rfl) ?_
    refine mx_iast (pc := 29) g3 g4 (mx_dd dd_X12_runsCommand_0 19 (29, .iastore, 1) rfl) ?_
    have P := P _ rfl
    refine mx_aload_n (pc := 30) 0 (mx_dd dd_X12_runsCommand_0 20 (30, .aload_n 0, 1) rfl) rfl rfl ?_
    refine mx_getI (pc := 31) mx_fl_X12_374 g1 rfl (mx_dd dd_X12_runsCommand_0 21 (31, .getfield 374, 3) rfl) ?_
    refine mx_istore_n (pc := 34) (mx_dd dd_X12_runsCommand_0 22 (34, .istore_n 3, 1) rfl) rfl (by decide) (lv' := [(3, _), (0, _), (1, _), (2, _)]) rfl ?_
    refine mx_iconst (pc := 35) (v := (0 : Int32)) (mx_dd dd_X12_runsCommand_0 23 (35, .iconst 0, 1) rfl) (by decide) ?_
    refine mx_istore (pc := 36) (mx_dd dd_X12_runsCommand_0 24 (36, .istore 4, 2) rfl) (by decide) (lv' := [(4, _), (3, _), (0, _), (1, _), (2, _)]) rfl ?_
    refine mx_sel [2, 3, 4, 1, 0] rfl ?_
    exact P
  · have P := P.2 c9
    refine mx_aload_n (pc := 12) 0 (mx_dd dd_X12_runsCommand_0 6 (12, .aload_n 0, 1) rfl) rfl rfl ?_
    refine mx_getR (pc := 13) mx_fl_X12_413 g1 rfl g2 (mx_dd dd_X12_runsCommand_0 7 (13, .getfield 413, 3) rfl) ?_
    refine mx_iconst (pc := 16) (v := (2 : Int32)) (mx_dd dd_X12_runsCommand_0 8 (16, .iconst 2, 1) rfl) (by decide) ?_
    refine mx_iconst (pc := 17) (v := (1 : Int32)) (mx_dd dd_X12_runsCommand_0 9 (17, .iconst 1, 1) rfl) (by decide) ?_
    obtain ⟨g5, P⟩ := P
    refine mx_iast (pc := 18) g3 g5 (mx_dd dd_X12_runsCommand_0 10 (18, .iastore, 1) rfl) ?_
    have P := P _ rfl
    exact mx_return (pc := 19) (mx_dd dd_X12_runsCommand_0 11 (19, .return_, 1) rfl) rfl P
theorem b_X12_runsCommand_38 {d : Nat} {h : mxH} {Q : mxRes → mxH → Prop} (x0 : Nat) (x1 : Int32) (x2 : Int32) (x3 : Int32) (x4 : Int32)
    (P : (((10 : Int32) ≤ x4 → mx_SX mY_X12_runsCommand d 87 [(0, .ref x0), (1, .int x1), (2, .int x2), (3, .int x3)] [] h Q) ∧ (¬ (10 : Int32) ≤ x4 → hpK h x0 = 12 ∧ ∃ b1 : Nat, hpR h x0 37 = some b1 ∧ hpK h b1 = 14 ∧ vp_in x2 (hpZ h b1) ∧ (((hpI h b1 x2.toNatClampNeg) = (-1 : Int32) → mx_SX mY_X12_runsCommand d 87 [(0, .ref x0), (1, .int x1), (2, .int x2), (3, .int x3)] [] h Q) ∧ (¬ (hpI h b1 x2.toNatClampNeg) = (-1 : Int32) → ∃ b2 : Nat, hpR h x0 68 = some b2 ∧ 1 ≤ d ∧ mx_SM mY_X12_handle (d - 1) [.ref x0, .int x1, .int x4] h (mx_KI (fun v1 h1 => hpK h1 b2 = 14 ∧ vp_in (hpI h x0 69) (hpZ h1 b2) ∧ ∀ h2 : mxH, h2 = hsI h1 b2 (hpI h x0 69).toNatClampNeg v1 → hpK h2 x0 = 12 ∧ ∀ h3 : mxH, h3 = hsI h2 x0 69 ((hpI h2 x0 69) + (1 : Int32)) → mx_SX mY_X12_runsCommand d 38 [(0, .ref x0), (1, .int x1), (2, .int x2), (3, .int x3), (4, .int (x4 + (1 : Int32)))] [] h3 Q) (mx_XX mY_X12_runsCommand Q))))))) : mx_SX mY_X12_runsCommand d 38 [(0, .ref x0), (1, .int x1), (2, .int x2), (3, .int x3), (4, .int x4)] [] h Q := by
  refine mx_iload (pc := 38) 4 (mx_dd dd_X12_runsCommand_0 25 (38, .iload 4, 2) rfl) rfl ?_
  refine mx_bipush (pc := 40) (v := (10 : Int32)) (mx_dd dd_X12_runsCommand_0 26 (40, .bipush 10, 2) rfl) (by decide) ?_
  refine mx_icmp_ge (pc := 42) 87 (mx_dd dd_X12_runsCommand_0 27 (42, .if_icmp .ge 45, 3) rfl) rfl (fun c42 => ?_) (fun c42 => ?_)
  · have P := P.1 c42
    refine mx_sel [0, 1, 2, 3] rfl ?_
    exact P
  · have P := P.2 c42
    refine mx_aload_n (pc := 45) 0 (mx_dd dd_X12_runsCommand_0 28 (45, .aload_n 0, 1) rfl) rfl rfl ?_
    obtain ⟨g1, P⟩ := P
    obtain ⟨b1, g2, P⟩ := P
    refine mx_getR (pc := 46) mx_fl_X12_290 g1 rfl g2 (mx_dd dd_X12_runsCommand_0 29 (46, .getfield 290, 3) rfl) ?_
    refine mx_iload_n (pc := 49) 2 (mx_dd dd_X12_runsCommand_0 30 (49, .iload_n 2, 1) rfl) rfl rfl ?_
    obtain ⟨g3, P⟩ := P
    obtain ⟨g4, P⟩ := P
    refine mx_iald (pc := 50) g3 g4 (mx_dd dd_X12_runsCommand_0 31 (50, .iaload, 1) rfl) ?_
    refine mx_iconst (pc := 51) (v := (-1 : Int32)) (mx_dd dd_X12_runsCommand_0 32 (51, .iconst (-1), 1) rfl) (by decide) ?_
    refine mx_icmp_eq (pc := 52) 87 (mx_dd dd_X12_runsCommand_0 33 (52, .if_icmp .eq 35, 3) rfl) rfl (fun c52 => ?_) (fun c52 => ?_)
    · have P := P.1 c52
      refine mx_sel [0, 1, 2, 3] rfl ?_
      exact P
    · have P := P.2 c52
      refine mx_aload_n (pc := 55) 0 (mx_dd dd_X12_runsCommand_0 34 (55, .aload_n 0, 1) rfl) rfl rfl ?_
      obtain ⟨b2, g5, P⟩ := P
      refine mx_getR (pc := 56) mx_fl_X12_377 g1 rfl g5 (mx_dd dd_X12_runsCommand_0 35 (56, .getfield 377, 3) rfl) ?_
      refine mx_aload_n (pc := 59) 0 (mx_dd dd_X12_runsCommand_0 36 (59, .aload_n 0, 1) rfl) rfl rfl ?_
      refine mx_getI (pc := 60) mx_fl_X12_374 g1 rfl (mx_dd dd_X12_runsCommand_0 37 (60, .getfield 374, 3) rfl) ?_
      refine mx_aload_n (pc := 63) 0 (mx_dd dd_X12_runsCommand_0 38 (63, .aload_n 0, 1) rfl) rfl rfl ?_
      refine mx_iload_n (pc := 64) 1 (mx_dd dd_X12_runsCommand_0 39 (64, .iload_n 1, 1) rfl) rfl rfl ?_
      refine mx_iload (pc := 65) 4 (mx_dd dd_X12_runsCommand_1 0 (65, .iload 4, 2) rfl) rfl ?_
      obtain ⟨g6, P⟩ := P
      refine mx_cVI (pc := 67) (Y := mY_X12_handle) (As := [.int _, .int _]) mx_ml_X12_371 mx_y_X12_handle rfl g1 (by decide) rfl (by simp [Value.category]) rfl (mx_dd dd_X12_runsCommand_1 1 (67, .invokevirtual 371, 3) rfl) g6 (by decide) P (fun v1 h1 P => ?_)
      obtain ⟨g7, P⟩ := P
      obtain ⟨g8, P⟩ := P
      refine mx_iast (pc := 70) g7 g8 (mx_dd dd_X12_runsCommand_1 2 (70, .iastore, 1) rfl) ?_
      have P := P _ rfl
      refine mx_aload_n (pc := 71) 0 (mx_dd dd_X12_runsCommand_1 3 (71, .aload_n 0, 1) rfl) rfl rfl ?_
      refine mx_dup (pc := 72) (mx_dd dd_X12_runsCommand_1 4 (72, .dup, 1) rfl) rfl ?_
      obtain ⟨g9, P⟩ := P
      refine mx_getI (pc := 73) mx_fl_X12_374 g9 rfl (mx_dd dd_X12_runsCommand_1 5 (73, .getfield 374, 3) rfl) ?_
      refine mx_iconst (pc := 76) (v := (1 : Int32)) (mx_dd dd_X12_runsCommand_1 6 (76, .iconst 1, 1) rfl) (by decide) ?_
      refine mx_iadd (pc := 77) (mx_dd dd_X12_runsCommand_1 7 (77, .iadd, 1) rfl) ?_
      refine mx_putI (pc := 78) mx_fl_X12_374 g9 rfl (.inl rfl) rfl rfl (mx_dd dd_X12_runsCommand_1 8 (78, .putfield 374, 3) rfl) ?_
      have P := P _ rfl
      refine mx_iinc (pc := 81) 4 (mx_dd dd_X12_runsCommand_1 9 (81, .iinc 4 1, 3) rfl) rfl (mx_kadd (by decide : Int32.ofInt 1 = (1 : Int32))) (by decide) (lv' := [(4, _), (0, _), (1, _), (2, _), (3, _)]) rfl ?_
      refine mx_goto (pc := 84) 38 (mx_dd dd_X12_runsCommand_1 10 (84, .goto (-46), 3) rfl) rfl ?_
      refine mx_sel [1, 2, 3, 4, 0] rfl ?_
      exact P
theorem b_X12_runsCommand_87 {d : Nat} {h : mxH} {Q : mxRes → mxH → Prop} (x0 : Nat) (x1 : Int32) (x2 : Int32) (x3 : Int32)
    (P : 1 ≤ d ∧ hpK h x0 = 12 ∧ mx_SM mY_X12_redirects (d - 1) [.ref x0, .int x1, .int x2] h (mx_KI (fun v1 h1 => ((v1 = 0 → hpK h1 x0 = 12 ∧ mx_SM mY_X12_sets (d - 1) [.ref x0, .int x1, .int (33 : Int32), .int (1 : Int32)] h1 (mx_KV (fun h2 => mx_SX mY_X12_runsCommand d 117 [(0, .ref x0), (1, .int x1), (2, .int x2), (3, .int x3), (4, .int v1)] [] h2 Q) (mx_XX mY_X12_runsCommand Q))) ∧ (¬ v1 = 0 → hpK h1 x0 = 12 ∧ mx_SM mY_X12_runsBody (d - 1) [.ref x0, .int x1, .int x2] h1 (mx_KV (fun h3 => mx_SX mY_X12_runsCommand d 117 [(0, .ref x0), (1, .int x1), (2, .int x2), (3, .int x3), (4, .int v1)] [] h3 Q) (mx_XX mY_X12_runsCommand Q))))) (mx_XX mY_X12_runsCommand Q))) : mx_SX mY_X12_runsCommand d 87 [(0, .ref x0), (1, .int x1), (2, .int x2), (3, .int x3)] [] h Q := by
  refine mx_aload_n (pc := 87) 0 (mx_dd dd_X12_runsCommand_1 11 (87, .aload_n 0, 1) rfl) rfl rfl ?_
  refine mx_iload_n (pc := 88) 1 (mx_dd dd_X12_runsCommand_1 12 (88, .iload_n 1, 1) rfl) rfl rfl ?_
  refine mx_iload_n (pc := 89) 2 (mx_dd dd_X12_runsCommand_1 13 (89, .iload_n 2, 1) rfl) rfl rfl ?_
  obtain ⟨g1, P⟩ := P
  obtain ⟨g2, P⟩ := P
  refine mx_cVI (pc := 90) (Y := mY_X12_redirects) (As := [.int _, .int _]) mx_ml_X12_501 mx_y_X12_redirects rfl g2 (by decide) rfl (by decide) rfl (mx_dd dd_X12_runsCommand_1 14 (90, .invokevirtual 501, 3) rfl) g1 (by decide) P (fun v1 h1 P => ?_)
  refine mx_istore (pc := 93) (mx_dd dd_X12_runsCommand_1 15 (93, .istore 4, 2) rfl) (by decide) (lv' := [(4, _), (0, _), (1, _), (2, _), (3, _)]) rfl ?_
  refine mx_iload (pc := 95) 0 (mx_dd dd_X12_runsCommand_1 16 (95, .iload 4, 2) rfl) rfl ?_
  refine mx_if_eq (pc := 97) 109 (mx_dd dd_X12_runsCommand_1 17 (97, .ifCond .eq 12, 3) rfl) rfl (fun c97 => ?_) (fun c97 => ?_)
  · have P := P.1 c97
    refine mx_aload_n (pc := 109) 1 (mx_dd dd_X12_runsCommand_1 23 (109, .aload_n 0, 1) rfl) rfl rfl ?_
    refine mx_iload_n (pc := 110) 2 (mx_dd dd_X12_runsCommand_1 24 (110, .iload_n 1, 1) rfl) rfl rfl ?_
    refine mx_bipush (pc := 111) (v := (33 : Int32)) (mx_dd dd_X12_runsCommand_1 25 (111, .bipush 33, 2) rfl) (by decide) ?_
    refine mx_iconst (pc := 113) (v := (1 : Int32)) (mx_dd dd_X12_runsCommand_1 26 (113, .iconst 1, 1) rfl) (by decide) ?_
    obtain ⟨g3, P⟩ := P
    refine mx_cVV (pc := 114) (Y := mY_X12_sets) (As := [.int _, .int _, .int _]) mx_ml_X12_419 mx_y_X12_sets rfl g3 (by decide) rfl (by decide) rfl (mx_dd dd_X12_runsCommand_1 27 (114, .invokevirtual 419, 3) rfl) g1 (by decide) P (fun h2 P => ?_)
    refine mx_sel [1, 2, 3, 4, 0] rfl ?_
    exact P
  · have P := P.2 c97
    refine mx_aload_n (pc := 100) 1 (mx_dd dd_X12_runsCommand_1 18 (100, .aload_n 0, 1) rfl) rfl rfl ?_
    refine mx_iload_n (pc := 101) 2 (mx_dd dd_X12_runsCommand_1 19 (101, .iload_n 1, 1) rfl) rfl rfl ?_
    refine mx_iload_n (pc := 102) 3 (mx_dd dd_X12_runsCommand_1 20 (102, .iload_n 2, 1) rfl) rfl rfl ?_
    obtain ⟨g4, P⟩ := P
    refine mx_cVV (pc := 103) (Y := mY_X12_runsBody) (As := [.int _, .int _]) mx_ml_X12_504 mx_y_X12_runsBody rfl g4 (by decide) rfl (by decide) rfl (mx_dd dd_X12_runsCommand_1 21 (103, .invokevirtual 504, 3) rfl) g1 (by decide) P (fun h3 P => ?_)
    refine mx_goto (pc := 106) 117 (mx_dd dd_X12_runsCommand_1 22 (106, .goto 11, 3) rfl) rfl ?_
    refine mx_sel [1, 2, 3, 4, 0] rfl ?_
    exact P
theorem b_X12_runsCommand_117 {d : Nat} {h : mxH} {Q : mxRes → mxH → Prop} (x0 : Nat) (x1 : Int32) (x2 : Int32) (x3 : Int32) (x4 : Int32)
    (P : ((x4 = 0 → mx_SX mY_X12_runsCommand d 161 [(0, .ref x0), (1, .int x1), (2, .int x2), (3, .int x3)] [] h Q) ∧ (¬ x4 = 0 → hpK h x0 = 12 ∧ ∃ b1 : Nat, hpR h x0 33 = some b1 ∧ hpK h b1 = 14 ∧ vp_in x2 (hpZ h b1) ∧ ((¬ (hpI h b1 x2.toNatClampNeg) = (10 : Int32) → mx_SX mY_X12_runsCommand d 161 [(0, .ref x0), (1, .int x1), (2, .int x2), (3, .int x3)] [] h Q) ∧ ((hpI h b1 x2.toNatClampNeg) = (10 : Int32) → ∃ b2 : Nat, hpR h x0 40 = some b2 ∧ hpK h b2 = 15 ∧ vp_in x2 (hpZ h b2) ∧ ((¬ (lg_cmp (hpL h b2 x2.toNatClampNeg) (hpL h x0 18)) = 0 → mx_SX mY_X12_runsCommand d 161 [(0, .ref x0), (1, .int x1), (2, .int x2), (3, .int x3)] [] h Q) ∧ ((lg_cmp (hpL h b2 x2.toNatClampNeg) (hpL h x0 18)) = 0 → ∃ b3 : Nat, hpR h x0 34 = some b3 ∧ hpK h b3 = 14 ∧ vp_in x2 (hpZ h b3) ∧ ((¬ (hpI h b3 x2.toNatClampNeg) = (-1 : Int32) → mx_SX mY_X12_runsCommand d 161 [(0, .ref x0), (1, .int x1), (2, .int x2), (3, .int x3)] [] h Q) ∧ ((hpI h b3 x2.toNatClampNeg) = (-1 : Int32) → ∃ b4 : Nat, hpR h x0 37 = some b4 ∧ hpK h b4 = 14 ∧ vp_in x2 (hpZ h b4) ∧ (((hpI h b4 x2.toNatClampNeg) = (-1 : Int32) → mx_SX mY_X12_runsCommand d 214 [(0, .ref x0), (1, .int x1), (2, .int x2), (3, .int x3)] [] h Q) ∧ (¬ (hpI h b4 x2.toNatClampNeg) = (-1 : Int32) → ((¬ (1 : Int32) = 0 → mx_SX mY_X12_runsCommand d 214 [(0, .ref x0), (1, .int x1), (2, .int x2), (3, .int x3)] [] h Q) ∧ ((1 : Int32) = 0 → mx_SX mY_X12_runsCommand d 182 [(0, .ref x0), (1, .int x1), (2, .int x2), (3, .int x3), (6, .int (0 : Int32))] [] h Q))))))))))))) : mx_SX mY_X12_runsCommand d 117 [(0, .ref x0), (1, .int x1), (2, .int x2), (3, .int x3), (4, .int x4)] [] h Q := by
  refine mx_iload (pc := 117) 4 (mx_dd dd_X12_runsCommand_1 28 (117, .iload 4, 2) rfl) rfl ?_
  refine mx_if_eq (pc := 119) 161 (mx_dd dd_X12_runsCommand_1 29 (119, .ifCond .eq 42, 3) rfl) rfl (fun c119 => ?_) (fun c119 => ?_)
  · have P := P.1 c119
    refine mx_sel [0, 1, 2, 3] rfl ?_
    exact P
  · have P := P.2 c119
    refine mx_aload_n (pc := 122) 0 (mx_dd dd_X12_runsCommand_1 30 (122, .aload_n 0, 1) rfl) rfl rfl ?_
    obtain ⟨g1, P⟩ := P
    obtain ⟨b1, g2, P⟩ := P
    refine mx_getR (pc := 123) mx_fl_X12_278 g1 rfl g2 (mx_dd dd_X12_runsCommand_1 31 (123, .getfield 278, 3) rfl) ?_
    refine mx_iload_n (pc := 126) 2 (mx_dd dd_X12_runsCommand_1 32 (126, .iload_n 2, 1) rfl) rfl rfl ?_
    obtain ⟨g3, P⟩ := P
    obtain ⟨g4, P⟩ := P
    refine mx_iald (pc := 127) g3 g4 (mx_dd dd_X12_runsCommand_1 33 (127, .iaload, 1) rfl) ?_
    refine mx_bipush (pc := 128) (v := (10 : Int32)) (mx_dd dd_X12_runsCommand_1 34 (128, .bipush 10, 2) rfl) (by decide) ?_
    refine mx_icmp_ne (pc := 130) 161 (mx_dd dd_X12_runsCommand_1 35 (130, .if_icmp .ne 31, 3) rfl) rfl (fun c130 => ?_) (fun c130 => ?_)
    · have P := P.1 c130
      refine mx_sel [0, 1, 2, 3] rfl ?_
      exact P
    · have P := P.2 c130
      refine mx_aload_n (pc := 133) 0 (mx_dd dd_X12_runsCommand_1 36 (133, .aload_n 0, 1) rfl) rfl rfl ?_
      obtain ⟨b2, g5, P⟩ := P
      refine mx_getR (pc := 134) mx_fl_X12_299 g1 rfl g5 (mx_dd dd_X12_runsCommand_1 37 (134, .getfield 299, 3) rfl) ?_
      refine mx_iload_n (pc := 137) 2 (mx_dd dd_X12_runsCommand_1 38 (137, .iload_n 2, 1) rfl) rfl rfl ?_
      obtain ⟨g6, P⟩ := P
      obtain ⟨g7, P⟩ := P
      refine mx_lald (pc := 138) g6 g7 (mx_dd dd_X12_runsCommand_1 39 (138, .laload, 1) rfl) ?_
      refine mx_aload_n (pc := 139) 0 (mx_dd dd_X12_runsCommand_2 0 (139, .aload_n 0, 1) rfl) rfl rfl ?_
      refine mx_getL (pc := 140) mx_fl_X12_113 g1 rfl (mx_dd dd_X12_runsCommand_2 1 (140, .getfield 113, 3) rfl) ?_
      refine mx_lcmp (pc := 143) (mx_dd dd_X12_runsCommand_2 2 (143, .lcmp, 1) rfl) ?_
      refine mx_if_ne (pc := 144) 161 (mx_dd dd_X12_runsCommand_2 3 (144, .ifCond .ne 17, 3) rfl) rfl (fun c144 => ?_) (fun c144 => ?_)
      · have P := P.1 c144
        refine mx_sel [0, 1, 2, 3] rfl ?_
        exact P
      · have P := P.2 c144
        refine mx_aload_n (pc := 147) 0 (mx_dd dd_X12_runsCommand_2 4 (147, .aload_n 0, 1) rfl) rfl rfl ?_
        obtain ⟨b3, g8, P⟩ := P
        refine mx_getR (pc := 148) mx_fl_X12_281 g1 rfl g8 (mx_dd dd_X12_runsCommand_2 5 (148, .getfield 281, 3) rfl) ?_
        refine mx_iload_n (pc := 151) 2 (mx_dd dd_X12_runsCommand_2 6 (151, .iload_n 2, 1) rfl) rfl rfl ?_
        obtain ⟨g9, P⟩ := P
        obtain ⟨g10, P⟩ := P
        refine mx_iald (pc := 152) g9 g10 (mx_dd dd_X12_runsCommand_2 7 (152, .iaload, 1) rfl) ?_
        refine mx_iconst (pc := 153) (v := (-1 : Int32)) (mx_dd dd_X12_runsCommand_2 8 (153, .iconst (-1), 1) rfl) (by decide) ?_
        refine mx_icmp_ne (pc := 154) 161 (mx_dd dd_X12_runsCommand_2 9 (154, .if_icmp .ne 7, 3) rfl) rfl (fun c154 => ?_) (fun c154 => ?_)
        · have P := P.1 c154
          refine mx_sel [0, 1, 2, 3] rfl ?_
          exact P
        · have P := P.2 c154
          refine mx_iconst (pc := 157) (v := (1 : Int32)) (mx_dd dd_X12_runsCommand_2 10 (157, .iconst 1, 1) rfl) (by decide) ?_
          refine mx_goto (pc := 158) 162 (mx_dd dd_X12_runsCommand_2 11 (158, .goto 4, 3) rfl) rfl ?_
          refine mx_istore (pc := 162) (mx_dd dd_X12_runsCommand_2 13 (162, .istore 5, 2) rfl) (by decide) (lv' := [(5, _), (0, _), (1, _), (2, _), (3, _), (4, _)]) rfl ?_
          refine mx_aload_n (pc := 164) 1 (mx_dd dd_X12_runsCommand_2 14 (164, .aload_n 0, 1) rfl) rfl rfl ?_
          obtain ⟨b4, g11, P⟩ := P
          refine mx_getR (pc := 165) mx_fl_X12_290 g1 rfl g11 (mx_dd dd_X12_runsCommand_2 15 (165, .getfield 290, 3) rfl) ?_
          refine mx_iload_n (pc := 168) 3 (mx_dd dd_X12_runsCommand_2 16 (168, .iload_n 2, 1) rfl) rfl rfl ?_
          obtain ⟨g12, P⟩ := P
          obtain ⟨g13, P⟩ := P
          refine mx_iald (pc := 169) g12 g13 (mx_dd dd_X12_runsCommand_2 17 (169, .iaload, 1) rfl) ?_
          refine mx_iconst (pc := 170) (v := (-1 : Int32)) (mx_dd dd_X12_runsCommand_2 18 (170, .iconst (-1), 1) rfl) (by decide) ?_
          refine mx_icmp_eq (pc := 171) 214 (mx_dd dd_X12_runsCommand_2 19 (171, .if_icmp .eq 43, 3) rfl) rfl (fun c171 => ?_) (fun c171 => ?_)
          · have P := P.1 c171
            refine mx_sel [1, 2, 3, 4] rfl ?_
            exact P
          · have P := P.2 c171
            refine mx_iload (pc := 174) 0 (mx_dd dd_X12_runsCommand_2 20 (174, .iload 5, 2) rfl) rfl ?_
            refine mx_if_ne (pc := 176) 214 (mx_dd dd_X12_runsCommand_2 21 (176, .ifCond .ne 38, 3) rfl) rfl (fun c176 => ?_) (fun c176 => ?_)
            · have P := P.1 c176
              refine mx_sel [1, 2, 3, 4] rfl ?_
              exact P
            · have P := P.2 c176
              refine mx_iconst (pc := 179) (v := (0 : Int32)) (mx_dd dd_X12_runsCommand_2 22 (179, .iconst 0, 1) rfl) (by decide) ?_
              refine mx_istore (pc := 180) (mx_dd dd_X12_runsCommand_2 23 (180, .istore 6, 2) rfl) (by decide) (lv' := [(6, _), (5, _), (0, _), (1, _), (2, _), (3, _), (4, _)]) rfl ?_
              refine mx_sel [2, 3, 4, 5, 0] rfl ?_
              exact P
theorem b_X12_runsCommand_161 {d : Nat} {h : mxH} {Q : mxRes → mxH → Prop} (x0 : Nat) (x1 : Int32) (x2 : Int32) (x3 : Int32)
    (P : hpK h x0 = 12 ∧ ∃ b1 : Nat, hpR h x0 37 = some b1 ∧ hpK h b1 = 14 ∧ vp_in x2 (hpZ h b1) ∧ (((hpI h b1 x2.toNatClampNeg) = (-1 : Int32) → mx_SX mY_X12_runsCommand d 214 [(0, .ref x0), (1, .int x1), (2, .int x2), (3, .int x3)] [] h Q) ∧ (¬ (hpI h b1 x2.toNatClampNeg) = (-1 : Int32) → ((¬ (0 : Int32) = 0 → mx_SX mY_X12_runsCommand d 214 [(0, .ref x0), (1, .int x1), (2, .int x2), (3, .int x3)] [] h Q) ∧ ((0 : Int32) = 0 → mx_SX mY_X12_runsCommand d 182 [(0, .ref x0), (1, .int x1), (2, .int x2), (3, .int x3), (6, .int (0 : Int32))] [] h Q))))) : mx_SX mY_X12_runsCommand d 161 [(0, .ref x0), (1, .int x1), (2, .int x2), (3, .int x3)] [] h Q := by
  refine mx_iconst (pc := 161) (v := (0 : Int32)) (mx_dd dd_X12_runsCommand_2 12 (161, .iconst 0, 1) rfl) (by decide) ?_
  refine mx_istore (pc := 162) (mx_dd dd_X12_runsCommand_2 13 (162, .istore 5, 2) rfl) (by decide) (lv' := [(5, _), (0, _), (1, _), (2, _), (3, _)]) rfl ?_
  refine mx_aload_n (pc := 164) 1 (mx_dd dd_X12_runsCommand_2 14 (164, .aload_n 0, 1) rfl) rfl rfl ?_
  obtain ⟨g1, P⟩ := P
  obtain ⟨b1, g2, P⟩ := P
  refine mx_getR (pc := 165) mx_fl_X12_290 g1 rfl g2 (mx_dd dd_X12_runsCommand_2 15 (165, .getfield 290, 3) rfl) ?_
  refine mx_iload_n (pc := 168) 3 (mx_dd dd_X12_runsCommand_2 16 (168, .iload_n 2, 1) rfl) rfl rfl ?_
  obtain ⟨g3, P⟩ := P
  obtain ⟨g4, P⟩ := P
  refine mx_iald (pc := 169) g3 g4 (mx_dd dd_X12_runsCommand_2 17 (169, .iaload, 1) rfl) ?_
  refine mx_iconst (pc := 170) (v := (-1 : Int32)) (mx_dd dd_X12_runsCommand_2 18 (170, .iconst (-1), 1) rfl) (by decide) ?_
  refine mx_icmp_eq (pc := 171) 214 (mx_dd dd_X12_runsCommand_2 19 (171, .if_icmp .eq 43, 3) rfl) rfl (fun c171 => ?_) (fun c171 => ?_)
  · have P := P.1 c171
    refine mx_sel [1, 2, 3, 4] rfl ?_
    exact P
  · have P := P.2 c171
    refine mx_iload (pc := 174) 0 (mx_dd dd_X12_runsCommand_2 20 (174, .iload 5, 2) rfl) rfl ?_
    refine mx_if_ne (pc := 176) 214 (mx_dd dd_X12_runsCommand_2 21 (176, .ifCond .ne 38, 3) rfl) rfl (fun c176 => ?_) (fun c176 => ?_)
    · have P := P.1 c176
      refine mx_sel [1, 2, 3, 4] rfl ?_
      exact P
    · have P := P.2 c176
      refine mx_iconst (pc := 179) (v := (0 : Int32)) (mx_dd dd_X12_runsCommand_2 22 (179, .iconst 0, 1) rfl) (by decide) ?_
      refine mx_istore (pc := 180) (mx_dd dd_X12_runsCommand_2 23 (180, .istore 6, 2) rfl) (by decide) (lv' := [(6, _), (5, _), (0, _), (1, _), (2, _), (3, _)]) rfl ?_
      refine mx_sel [2, 3, 4, 5, 0] rfl ?_
      exact P
theorem b_X12_runsCommand_182 {d : Nat} {h : mxH} {Q : mxRes → mxH → Prop} (x0 : Nat) (x1 : Int32) (x2 : Int32) (x3 : Int32) (x6 : Int32)
    (P : (((10 : Int32) ≤ x6 → mx_SX mY_X12_runsCommand d 214 [(0, .ref x0), (1, .int x1), (2, .int x2), (3, .int x3)] [] h Q) ∧ (¬ (10 : Int32) ≤ x6 → hpK h x0 = 12 ∧ ∃ b1 : Nat, hpR h x0 68 = some b1 ∧ hpK h b1 = 14 ∧ vp_in (x3 + x6) (hpZ h b1) ∧ 1 ≤ d ∧ mx_SM mY_X12_sets (d - 1) [.ref x0, .int x1, .int ((36 : Int32) + x6), .int (hpI h b1 (x3 + x6).toNatClampNeg)] h (mx_KV (fun h1 => mx_SX mY_X12_runsCommand d 182 [(0, .ref x0), (1, .int x1), (2, .int x2), (3, .int x3), (6, .int (x6 + (1 : Int32)))] [] h1 Q) (mx_XX mY_X12_runsCommand Q))))) : mx_SX mY_X12_runsCommand d 182 [(0, .ref x0), (1, .int x1), (2, .int x2), (3, .int x3), (6, .int x6)] [] h Q := by
  refine mx_iload (pc := 182) 4 (mx_dd dd_X12_runsCommand_2 24 (182, .iload 6, 2) rfl) rfl ?_
  refine mx_bipush (pc := 184) (v := (10 : Int32)) (mx_dd dd_X12_runsCommand_2 25 (184, .bipush 10, 2) rfl) (by decide) ?_
  refine mx_icmp_ge (pc := 186) 214 (mx_dd dd_X12_runsCommand_2 26 (186, .if_icmp .ge 28, 3) rfl) rfl (fun c186 => ?_) (fun c186 => ?_)
  · have P := P.1 c186
    refine mx_sel [0, 1, 2, 3] rfl ?_
    exact P
  · have P := P.2 c186
    refine mx_aload_n (pc := 189) 0 (mx_dd dd_X12_runsCommand_2 27 (189, .aload_n 0, 1) rfl) rfl rfl ?_
    refine mx_iload_n (pc := 190) 1 (mx_dd dd_X12_runsCommand_2 28 (190, .iload_n 1, 1) rfl) rfl rfl ?_
    refine mx_bipush (pc := 191) (v := (36 : Int32)) (mx_dd dd_X12_runsCommand_2 29 (191, .bipush 36, 2) rfl) (by decide) ?_
    refine mx_iload (pc := 193) 4 (mx_dd dd_X12_runsCommand_2 30 (193, .iload 6, 2) rfl) rfl ?_
    refine mx_iadd (pc := 195) (mx_dd dd_X12_runsCommand_2 31 (195, .iadd, 1) rfl) ?_
    refine mx_aload_n (pc := 196) 0 (mx_dd dd_X12_runsCommand_2 32 (196, .aload_n 0, 1) rfl) rfl rfl ?_
    obtain ⟨g1, P⟩ := P
    obtain ⟨b1, g2, P⟩ := P
    refine mx_getR (pc := 197) mx_fl_X12_377 g1 rfl g2 (mx_dd dd_X12_runsCommand_2 33 (197, .getfield 377, 3) rfl) ?_
    refine mx_iload_n (pc := 200) 3 (mx_dd dd_X12_runsCommand_2 34 (200, .iload_n 3, 1) rfl) rfl rfl ?_
    refine mx_iload (pc := 201) 4 (mx_dd dd_X12_runsCommand_2 35 (201, .iload 6, 2) rfl) rfl ?_
    refine mx_iadd (pc := 203) (mx_dd dd_X12_runsCommand_2 36 (203, .iadd, 1) rfl) ?_
    obtain ⟨g3, P⟩ := P
    obtain ⟨g4, P⟩ := P
    refine mx_iald (pc := 204) g3 g4 (mx_dd dd_X12_runsCommand_2 37 (204, .iaload, 1) rfl) ?_
    obtain ⟨g5, P⟩ := P
    refine mx_cVV (pc := 205) (Y := mY_X12_sets) (As := [.int _, .int _, .int _]) mx_ml_X12_419 mx_y_X12_sets rfl g1 (by decide) rfl (by decide) rfl (mx_dd dd_X12_runsCommand_2 38 (205, .invokevirtual 419, 3) rfl) g5 (by decide) P (fun h1 P => ?_)
    refine mx_iinc (pc := 208) 4 (mx_dd dd_X12_runsCommand_2 39 (208, .iinc 6 1, 3) rfl) rfl (mx_kadd (by decide : Int32.ofInt 1 = (1 : Int32))) (by decide) (lv' := [(6, _), (0, _), (1, _), (2, _), (3, _)]) rfl ?_
    refine mx_goto (pc := 211) 182 (mx_dd dd_X12_runsCommand_3 0 (211, .goto (-29), 3) rfl) rfl ?_
    refine mx_sel [1, 2, 3, 4, 0] rfl ?_
    exact P
theorem b_X12_runsCommand_214 {d : Nat} {h : mxH} {Q : mxRes → mxH → Prop} (x0 : Nat) (x1 : Int32) (x2 : Int32) (x3 : Int32)
    (P : hpK h x0 = 12 ∧ ∀ h1 : mxH, h1 = hsI h x0 69 x3 → 1 ≤ d ∧ mx_SM mY_X12_isHalted (d - 1) [.ref x0, .int x1] h1 (mx_KI (fun v1 h2 => ((¬ v1 = 0 → Q (.inl none) h2) ∧ (v1 = 0 → hpK h2 x0 = 12 ∧ ∃ b1 : Nat, hpR h2 x0 33 = some b1 ∧ hpK h2 b1 = 14 ∧ vp_in x2 (hpZ h2 b1) ∧ (((hpI h2 b1 x2.toNatClampNeg) = (10 : Int32) → mx_SX mY_X12_runsCommand d 249 [(0, .ref x0), (1, .int x1), (2, .int x2)] [] h2 Q) ∧ (¬ (hpI h2 b1 x2.toNatClampNeg) = (10 : Int32) → ((¬ (hpI h2 b1 x2.toNatClampNeg) = (9 : Int32) → Q (.inl none) h2) ∧ ((hpI h2 b1 x2.toNatClampNeg) = (9 : Int32) → mx_SX mY_X12_runsCommand d 249 [(0, .ref x0), (1, .int x1), (2, .int x2)] [] h2 Q))))))) (mx_XX mY_X12_runsCommand Q))) : mx_SX mY_X12_runsCommand d 214 [(0, .ref x0), (1, .int x1), (2, .int x2), (3, .int x3)] [] h Q := by
  refine mx_aload_n (pc := 214) 0 (mx_dd dd_X12_runsCommand_3 1 (214, .aload_n 0, 1) rfl) rfl rfl ?_
  refine mx_iload_n (pc := 215) 3 (mx_dd dd_X12_runsCommand_3 2 (215, .iload_n 3, 1) rfl) rfl rfl ?_
  obtain ⟨g1, P⟩ := P
  refine mx_putI (pc := 216) mx_fl_X12_374 g1 rfl (.inl rfl) rfl rfl (mx_dd dd_X12_runsCommand_3 3 (216, .putfield 374, 3) rfl) ?_
  have P := P _ rfl
  refine mx_aload_n (pc := 219) 0 (mx_dd dd_X12_runsCommand_3 4 (219, .aload_n 0, 1) rfl) rfl rfl ?_
  refine mx_iload_n (pc := 220) 1 (mx_dd dd_X12_runsCommand_3 5 (220, .iload_n 1, 1) rfl) rfl rfl ?_
  obtain ⟨g2, P⟩ := P
  refine mx_cVI (pc := 221) (Y := mY_X12_isHalted) (As := [.int _]) mx_ml_X12_468 mx_y_X12_isHalted rfl g1 (by decide) rfl (by decide) rfl (mx_dd dd_X12_runsCommand_3 6 (221, .invokevirtual 468, 3) rfl) g2 (by decide) P (fun v1 h2 P => ?_)
  refine mx_if_ne (pc := 224) 255 (mx_dd dd_X12_runsCommand_3 7 (224, .ifCond .ne 31, 3) rfl) rfl (fun c224 => ?_) (fun c224 => ?_)
  · have P := P.1 c224
    exact mx_return (pc := 255) (mx_dd dd_X12_runsCommand_3 24 (255, .return_, 1) rfl) rfl P
  · have P := P.2 c224
    refine mx_aload_n (pc := 227) 0 (mx_dd dd_X12_runsCommand_3 8 (227, .aload_n 0, 1) rfl) rfl rfl ?_
    obtain ⟨g3, P⟩ := P
    obtain ⟨b1, g4, P⟩ := P
    refine mx_getR (pc := 228) mx_fl_X12_278 g3 rfl g4 (mx_dd dd_X12_runsCommand_3 9 (228, .getfield 278, 3) rfl) ?_
    refine mx_iload_n (pc := 231) 2 (mx_dd dd_X12_runsCommand_3 10 (231, .iload_n 2, 1) rfl) rfl rfl ?_
    obtain ⟨g5, P⟩ := P
    obtain ⟨g6, P⟩ := P
    refine mx_iald (pc := 232) g5 g6 (mx_dd dd_X12_runsCommand_3 11 (232, .iaload, 1) rfl) ?_
    refine mx_bipush (pc := 233) (v := (10 : Int32)) (mx_dd dd_X12_runsCommand_3 12 (233, .bipush 10, 2) rfl) (by decide) ?_
    refine mx_icmp_eq (pc := 235) 249 (mx_dd dd_X12_runsCommand_3 13 (235, .if_icmp .eq 14, 3) rfl) rfl (fun c235 => ?_) (fun c235 => ?_)
    · have P := P.1 c235
      refine mx_sel [0, 1, 2] rfl ?_
      exact P
    · have P := P.2 c235
      refine mx_aload_n (pc := 238) 0 (mx_dd dd_X12_runsCommand_3 14 (238, .aload_n 0, 1) rfl) rfl rfl ?_
      refine mx_getR (pc := 239) mx_fl_X12_278 g3 rfl g4 (mx_dd dd_X12_runsCommand_3 15 (239, .getfield 278, 3) rfl) ?_
      refine mx_iload_n (pc := 242) 2 (mx_dd dd_X12_runsCommand_3 16 (242, .iload_n 2, 1) rfl) rfl rfl ?_
      refine mx_iald (pc := 243) g5 g6 (mx_dd dd_X12_runsCommand_3 17 (243, .iaload, 1) rfl) ?_
      refine mx_bipush (pc := 244) (v := (9 : Int32)) (mx_dd dd_X12_runsCommand_3 18 (244, .bipush 9, 2) rfl) (by decide) ?_
      refine mx_icmp_ne (pc := 246) 255 (mx_dd dd_X12_runsCommand_3 19 (246, .if_icmp .ne 9, 3) rfl) rfl (fun c246 => ?_) (fun c246 => ?_)
      · have P := P.1 c246
        exact mx_return (pc := 255) (mx_dd dd_X12_runsCommand_3 24 (255, .return_, 1) rfl) rfl P
      · have P := P.2 c246
        refine mx_sel [0, 1, 2] rfl ?_
        exact P
theorem b_X12_runsCommand_249 {d : Nat} {h : mxH} {Q : mxRes → mxH → Prop} (x0 : Nat) (x1 : Int32) (x2 : Int32)
    (P : 1 ≤ d ∧ hpK h x0 = 12 ∧ mx_SM mY_X12_records (d - 1) [.ref x0, .int x1, .int x2] h (mx_KV (fun h1 => Q (.inl none) h1) (mx_XX mY_X12_runsCommand Q))) : mx_SX mY_X12_runsCommand d 249 [(0, .ref x0), (1, .int x1), (2, .int x2)] [] h Q := by
  refine mx_aload_n (pc := 249) 0 (mx_dd dd_X12_runsCommand_3 20 (249, .aload_n 0, 1) rfl) rfl rfl ?_
  refine mx_iload_n (pc := 250) 1 (mx_dd dd_X12_runsCommand_3 21 (250, .iload_n 1, 1) rfl) rfl rfl ?_
  refine mx_iload_n (pc := 251) 2 (mx_dd dd_X12_runsCommand_3 22 (251, .iload_n 2, 1) rfl) rfl rfl ?_
  obtain ⟨g1, P⟩ := P
  obtain ⟨g2, P⟩ := P
  refine mx_cVV (pc := 252) (Y := mY_X12_records) (As := [.int _, .int _]) mx_ml_X12_507 mx_y_X12_records rfl g2 (by decide) rfl (by decide) rfl (mx_dd dd_X12_runsCommand_3 23 (252, .invokevirtual 507, 3) rfl) g1 (by decide) P (fun h1 P => ?_)
  exact mx_return (pc := 255) (mx_dd dd_X12_runsCommand_3 24 (255, .return_, 1) rfl) rfl P
theorem b_X12_records {d : Nat} {h : mxH} {Q : mxRes → mxH → Prop} (x0 : Nat) (x1 : Int32) (x2 : Int32)
    (P : hpK h x0 = 12 ∧ ∃ b1 : Nat, hpR h x0 73 = some b1 ∧ hpK h b1 = 14 ∧ vp_in (3 : Int32) (hpZ h b1) ∧ ((¬ (hpI h b1 (3 : Int32).toNatClampNeg) = (60 : Int32) → mx_SX mY_X12_records d 50 [(0, .ref x0), (1, .int x1), (2, .int x2)] [] h Q) ∧ ((hpI h b1 (3 : Int32).toNatClampNeg) = (60 : Int32) → mx_SX mY_X12_records d 13 [(0, .ref x0), (1, .int x1), (2, .int x2), (3, .int (4 : Int32))] [] h Q))) : mx_SM mY_X12_records d [.ref x0, .int x1, .int x2] h Q := by
  refine mx_SM_of (by decide) (Nat.le_of_ble_eq_true rfl) ?_
  show mx_SX mY_X12_records d 0 [(0, .ref x0), (1, .int x1), (2, .int x2)] [] h Q
  refine mx_aload_n (pc := 0) 0 (mx_dd dd_X12_records_0 0 (0, .aload_n 0, 1) rfl) rfl rfl ?_
  obtain ⟨g1, P⟩ := P
  obtain ⟨b1, g2, P⟩ := P
  refine mx_getR (pc := 1) mx_fl_X12_413 g1 rfl g2 (mx_dd dd_X12_records_0 1 (1, .getfield 413, 3) rfl) ?_
  refine mx_iconst (pc := 4) (v := (3 : Int32)) (mx_dd dd_X12_records_0 2 (4, .iconst 3, 1) rfl) (by decide) ?_
  obtain ⟨g3, P⟩ := P
  obtain ⟨g4, P⟩ := P
  refine mx_iald (pc := 5) g3 g4 (mx_dd dd_X12_records_0 3 (5, .iaload, 1) rfl) ?_
  refine mx_bipush (pc := 6) (v := (60 : Int32)) (mx_dd dd_X12_records_0 4 (6, .bipush 60, 2) rfl) (by decide) ?_
  refine mx_icmp_ne (pc := 8) 50 (mx_dd dd_X12_records_0 5 (8, .if_icmp .ne 42, 3) rfl) rfl (fun c8 => ?_) (fun c8 => ?_)
  · have P := P.1 c8
    exact P
  · have P := P.2 c8
    refine mx_iconst (pc := 11) (v := (4 : Int32)) (mx_dd dd_X12_records_0 6 (11, .iconst 4, 1) rfl) (by decide) ?_
    refine mx_istore_n (pc := 12) (mx_dd dd_X12_records_0 7 (12, .istore_n 3, 1) rfl) rfl (by decide) (lv' := [(3, _), (0, _), (1, _), (2, _)]) rfl ?_
    refine mx_sel [1, 2, 3, 0] rfl ?_
    exact P
theorem b_X12_records_13 {d : Nat} {h : mxH} {Q : mxRes → mxH → Prop} (x0 : Nat) (x1 : Int32) (x2 : Int32) (x3 : Int32)
    (P : (((181 : Int32) ≤ x3 → hpK h x0 = 12 ∧ ∃ b1 : Nat, hpR h x0 73 = some b1 ∧ hpK h b1 = 14 ∧ vp_in (3 : Int32) (hpZ h b1) ∧ ∀ h1 : mxH, h1 = hsI h b1 (3 : Int32).toNatClampNeg ((hpI h b1 (3 : Int32).toNatClampNeg) - (1 : Int32)) → mx_SX mY_X12_records d 50 [(0, .ref x0), (1, .int x1), (2, .int x2)] [] h1 Q) ∧ (¬ (181 : Int32) ≤ x3 → hpK h x0 = 12 ∧ ∃ b2 : Nat, hpR h x0 73 = some b2 ∧ hpK h b2 = 14 ∧ vp_in (x3 + (3 : Int32)) (hpZ h b2) ∧ vp_in x3 (hpZ h b2) ∧ ∀ h2 : mxH, h2 = hsI h b2 x3.toNatClampNeg (hpI h b2 (x3 + (3 : Int32)).toNatClampNeg) → mx_SX mY_X12_records d 13 [(0, .ref x0), (1, .int x1), (2, .int x2), (3, .int (x3 + (1 : Int32)))] [] h2 Q))) : mx_SX mY_X12_records d 13 [(0, .ref x0), (1, .int x1), (2, .int x2), (3, .int x3)] [] h Q := by
  refine mx_iload_n (pc := 13) 3 (mx_dd dd_X12_records_0 8 (13, .iload_n 3, 1) rfl) rfl rfl ?_
  refine mx_sipush (pc := 14) (v := (181 : Int32)) (mx_dd dd_X12_records_0 9 (14, .sipush 181, 3) rfl) (by decide) ?_
  refine mx_icmp_ge (pc := 17) 40 (mx_dd dd_X12_records_0 10 (17, .if_icmp .ge 23, 3) rfl) rfl (fun c17 => ?_) (fun c17 => ?_)
  · have P := P.1 c17
    refine mx_aload_n (pc := 40) 0 (mx_dd dd_X12_records_0 23 (40, .aload_n 0, 1) rfl) rfl rfl ?_
    obtain ⟨g1, P⟩ := P
    obtain ⟨b1, g2, P⟩ := P
    refine mx_getR (pc := 41) mx_fl_X12_413 g1 rfl g2 (mx_dd dd_X12_records_0 24 (41, .getfield 413, 3) rfl) ?_
    refine mx_iconst (pc := 44) (v := (3 : Int32)) (mx_dd dd_X12_records_0 25 (44, .iconst 3, 1) rfl) (by decide) ?_
    refine mx_dup2 (pc := 45) (mx_dd dd_X12_records_0 26 (45, .dup2, 1) rfl) rfl rfl ?_
    obtain ⟨g3, P⟩ := P
    obtain ⟨g4, P⟩ := P
    refine mx_iald (pc := 46) g3 g4 (mx_dd dd_X12_records_0 27 (46, .iaload, 1) rfl) ?_
    refine mx_iconst (pc := 47) (v := (1 : Int32)) (mx_dd dd_X12_records_0 28 (47, .iconst 1, 1) rfl) (by decide) ?_
    refine mx_isub (pc := 48) (mx_dd dd_X12_records_0 29 (48, .isub, 1) rfl) ?_
    refine mx_iast (pc := 49) g3 g4 (mx_dd dd_X12_records_0 30 (49, .iastore, 1) rfl) ?_
    have P := P _ rfl
    refine mx_sel [0, 1, 2] rfl ?_
    exact P
  · have P := P.2 c17
    refine mx_aload_n (pc := 20) 0 (mx_dd dd_X12_records_0 11 (20, .aload_n 0, 1) rfl) rfl rfl ?_
    obtain ⟨g5, P⟩ := P
    obtain ⟨b2, g6, P⟩ := P
    refine mx_getR (pc := 21) mx_fl_X12_413 g5 rfl g6 (mx_dd dd_X12_records_0 12 (21, .getfield 413, 3) rfl) ?_
    refine mx_iload_n (pc := 24) 3 (mx_dd dd_X12_records_0 13 (24, .iload_n 3, 1) rfl) rfl rfl ?_
    refine mx_aload_n (pc := 25) 0 (mx_dd dd_X12_records_0 14 (25, .aload_n 0, 1) rfl) rfl rfl ?_
    refine mx_getR (pc := 26) mx_fl_X12_413 g5 rfl g6 (mx_dd dd_X12_records_0 15 (26, .getfield 413, 3) rfl) ?_
    refine mx_iload_n (pc := 29) 3 (mx_dd dd_X12_records_0 16 (29, .iload_n 3, 1) rfl) rfl rfl ?_
    refine mx_iconst (pc := 30) (v := (3 : Int32)) (mx_dd dd_X12_records_0 17 (30, .iconst 3, 1) rfl) (by decide) ?_
    refine mx_iadd (pc := 31) (mx_dd dd_X12_records_0 18 (31, .iadd, 1) rfl) ?_
    obtain ⟨g7, P⟩ := P
    obtain ⟨g8, P⟩ := P
    refine mx_iald (pc := 32) g7 g8 (mx_dd dd_X12_records_0 19 (32, .iaload, 1) rfl) ?_
    obtain ⟨g9, P⟩ := P
    refine mx_iast (pc := 33) g7 g9 (mx_dd dd_X12_records_0 20 (33, .iastore, 1) rfl) ?_
    have P := P _ rfl
    refine mx_iinc (pc := 34) 3 (mx_dd dd_X12_records_0 21 (34, .iinc 3 1, 3) rfl) rfl (mx_kadd (by decide : Int32.ofInt 1 = (1 : Int32))) (by decide) (lv' := [(3, _), (0, _), (1, _), (2, _)]) rfl ?_
    refine mx_goto (pc := 37) 13 (mx_dd dd_X12_records_0 22 (37, .goto (-24), 3) rfl) rfl ?_
    refine mx_sel [1, 2, 3, 0] rfl ?_
    exact P
theorem b_X12_records_50 {d : Nat} {h : mxH} {Q : mxRes → mxH → Prop} (x0 : Nat) (x1 : Int32) (x2 : Int32)
    (P : hpK h x0 = 12 ∧ ∃ b1 : Nat, hpR h x0 73 = some b1 ∧ hpK h b1 = 14 ∧ vp_in (3 : Int32) (hpZ h b1) ∧ ∃ b2 : Nat, hpR h x0 39 = some b2 ∧ hpK h b2 = 14 ∧ vp_in x2 (hpZ h b2) ∧ vp_in ((4 : Int32) + ((3 : Int32) * (hpI h b1 (3 : Int32).toNatClampNeg))) (hpZ h b1) ∧ ∀ h1 : mxH, h1 = hsI h b1 ((4 : Int32) + ((3 : Int32) * (hpI h b1 (3 : Int32).toNatClampNeg))).toNatClampNeg (hpI h b2 x2.toNatClampNeg) → ∃ b3 : Nat, hpR h1 x0 73 = some b3 ∧ 1 ≤ d ∧ mx_SM mY_X12_statusOf (d - 1) [.ref x0, .int x1] h1 (mx_KI (fun v1 h2 => hpK h2 b3 = 14 ∧ vp_in (((4 : Int32) + ((3 : Int32) * (hpI h b1 (3 : Int32).toNatClampNeg))) + (1 : Int32)) (hpZ h2 b3) ∧ ∀ h3 : mxH, h3 = hsI h2 b3 (((4 : Int32) + ((3 : Int32) * (hpI h b1 (3 : Int32).toNatClampNeg))) + (1 : Int32)).toNatClampNeg v1 → hpK h3 x0 = 12 ∧ ∃ b4 : Nat, hpR h3 x0 73 = some b4 ∧ mx_SM mY_X12_of (d - 1) [.ref x0, .int x1, .int (34 : Int32)] h3 (mx_KI (fun v2 h4 => hpK h4 b4 = 14 ∧ vp_in (((4 : Int32) + ((3 : Int32) * (hpI h b1 (3 : Int32).toNatClampNeg))) + (2 : Int32)) (hpZ h4 b4) ∧ ∀ h5 : mxH, h5 = hsI h4 b4 (((4 : Int32) + ((3 : Int32) * (hpI h b1 (3 : Int32).toNatClampNeg))) + (2 : Int32)).toNatClampNeg v2 → hpK h5 x0 = 12 ∧ ∃ b5 : Nat, hpR h5 x0 73 = some b5 ∧ hpK h5 b5 = 14 ∧ vp_in (3 : Int32) (hpZ h5 b5) ∧ ∀ h6 : mxH, h6 = hsI h5 b5 (3 : Int32).toNatClampNeg ((hpI h5 b5 (3 : Int32).toNatClampNeg) + (1 : Int32)) → Q (.inl none) h6) (mx_XX mY_X12_records Q))) (mx_XX mY_X12_records Q))) : mx_SX mY_X12_records d 50 [(0, .ref x0), (1, .int x1), (2, .int x2)] [] h Q := by
  refine mx_iconst (pc := 50) (v := (4 : Int32)) (mx_dd dd_X12_records_0 31 (50, .iconst 4, 1) rfl) (by decide) ?_
  refine mx_iconst (pc := 51) (v := (3 : Int32)) (mx_dd dd_X12_records_0 32 (51, .iconst 3, 1) rfl) (by decide) ?_
  refine mx_aload_n (pc := 52) 0 (mx_dd dd_X12_records_0 33 (52, .aload_n 0, 1) rfl) rfl rfl ?_
  obtain ⟨g1, P⟩ := P
  obtain ⟨b1, g2, P⟩ := P
  refine mx_getR (pc := 53) mx_fl_X12_413 g1 rfl g2 (mx_dd dd_X12_records_0 34 (53, .getfield 413, 3) rfl) ?_
  refine mx_iconst (pc := 56) (v := (3 : Int32)) (mx_dd dd_X12_records_0 35 (56, .iconst 3, 1) rfl) (by decide) ?_
  obtain ⟨g3, P⟩ := P
  obtain ⟨g4, P⟩ := P
  refine mx_iald (pc := 57) g3 g4 (mx_dd dd_X12_records_0 36 (57, .iaload, 1) rfl) ?_
  refine mx_imul (pc := 58) (mx_dd dd_X12_records_0 37 (58, .imul, 1) rfl) ?_
  refine mx_iadd (pc := 59) (mx_dd dd_X12_records_0 38 (59, .iadd, 1) rfl) ?_
  refine mx_istore_n (pc := 60) (mx_dd dd_X12_records_0 39 (60, .istore_n 3, 1) rfl) rfl (by decide) (lv' := [(3, _), (0, _), (1, _), (2, _)]) rfl ?_
  refine mx_aload_n (pc := 61) 1 (mx_dd dd_X12_records_1 0 (61, .aload_n 0, 1) rfl) rfl rfl ?_
  refine mx_getR (pc := 62) mx_fl_X12_413 g1 rfl g2 (mx_dd dd_X12_records_1 1 (62, .getfield 413, 3) rfl) ?_
  refine mx_iload_n (pc := 65) 0 (mx_dd dd_X12_records_1 2 (65, .iload_n 3, 1) rfl) rfl rfl ?_
  refine mx_aload_n (pc := 66) 1 (mx_dd dd_X12_records_1 3 (66, .aload_n 0, 1) rfl) rfl rfl ?_
  obtain ⟨b2, g5, P⟩ := P
  refine mx_getR (pc := 67) mx_fl_X12_296 g1 rfl g5 (mx_dd dd_X12_records_1 4 (67, .getfield 296, 3) rfl) ?_
  refine mx_iload_n (pc := 70) 3 (mx_dd dd_X12_records_1 5 (70, .iload_n 2, 1) rfl) rfl rfl ?_
  obtain ⟨g6, P⟩ := P
  obtain ⟨g7, P⟩ := P
  refine mx_iald (pc := 71) g6 g7 (mx_dd dd_X12_records_1 6 (71, .iaload, 1) rfl) ?_
  obtain ⟨g8, P⟩ := P
  refine mx_iast (pc := 72) g3 g8 (mx_dd dd_X12_records_1 7 (72, .iastore, 1) rfl) ?_
  have P := P _ rfl
  refine mx_aload_n (pc := 73) 1 (mx_dd dd_X12_records_1 8 (73, .aload_n 0, 1) rfl) rfl rfl ?_
  obtain ⟨b3, g9, P⟩ := P
  refine mx_getR (pc := 74) mx_fl_X12_413 g1 rfl g9 (mx_dd dd_X12_records_1 9 (74, .getfield 413, 3) rfl) ?_
  refine mx_iload_n (pc := 77) 0 (mx_dd dd_X12_records_1 10 (77, .iload_n 3, 1) rfl) rfl rfl ?_
  refine mx_iconst (pc := 78) (v := (1 : Int32)) (mx_dd dd_X12_records_1 11 (78, .iconst 1, 1) rfl) (by decide) ?_
  refine mx_iadd (pc := 79) (mx_dd dd_X12_records_1 12 (79, .iadd, 1) rfl) ?_
  refine mx_aload_n (pc := 80) 1 (mx_dd dd_X12_records_1 13 (80, .aload_n 0, 1) rfl) rfl rfl ?_
  refine mx_iload_n (pc := 81) 2 (mx_dd dd_X12_records_1 14 (81, .iload_n 1, 1) rfl) rfl rfl ?_
  obtain ⟨g10, P⟩ := P
  refine mx_cVI (pc := 82) (Y := mY_X12_statusOf) (As := [.int _]) mx_ml_X12_477 mx_y_X12_statusOf rfl g1 (by decide) rfl (by simp [Value.category]) rfl (mx_dd dd_X12_records_1 15 (82, .invokevirtual 477, 3) rfl) g10 (by decide) P (fun v1 h2 P => ?_)
  obtain ⟨g11, P⟩ := P
  obtain ⟨g12, P⟩ := P
  refine mx_iast (pc := 85) g11 g12 (mx_dd dd_X12_records_1 16 (85, .iastore, 1) rfl) ?_
  have P := P _ rfl
  refine mx_aload_n (pc := 86) 1 (mx_dd dd_X12_records_1 17 (86, .aload_n 0, 1) rfl) rfl rfl ?_
  obtain ⟨g13, P⟩ := P
  obtain ⟨b4, g14, P⟩ := P
  refine mx_getR (pc := 87) mx_fl_X12_413 g13 rfl g14 (mx_dd dd_X12_records_1 18 (87, .getfield 413, 3) rfl) ?_
  refine mx_iload_n (pc := 90) 0 (mx_dd dd_X12_records_1 19 (90, .iload_n 3, 1) rfl) rfl rfl ?_
  refine mx_iconst (pc := 91) (v := (2 : Int32)) (mx_dd dd_X12_records_1 20 (91, .iconst 2, 1) rfl) (by decide) ?_
  refine mx_iadd (pc := 92) (mx_dd dd_X12_records_1 21 (92, .iadd, 1) rfl) ?_
  refine mx_aload_n (pc := 93) 1 (mx_dd dd_X12_records_1 22 (93, .aload_n 0, 1) rfl) rfl rfl ?_
  refine mx_iload_n (pc := 94) 2 (mx_dd dd_X12_records_1 23 (94, .iload_n 1, 1) rfl) rfl rfl ?_
  refine mx_bipush (pc := 95) (v := (34 : Int32)) (mx_dd dd_X12_records_1 24 (95, .bipush 34, 2) rfl) (by decide) ?_
  refine mx_cVI (pc := 97) (Y := mY_X12_of) (As := [.int _, .int _]) mx_ml_X12_416 mx_y_X12_of rfl g13 (by decide) rfl (by simp [Value.category]) rfl (mx_dd dd_X12_records_1 25 (97, .invokevirtual 416, 3) rfl) g10 (by decide) P (fun v2 h4 P => ?_)
  obtain ⟨g15, P⟩ := P
  obtain ⟨g16, P⟩ := P
  refine mx_iast (pc := 100) g15 g16 (mx_dd dd_X12_records_1 26 (100, .iastore, 1) rfl) ?_
  have P := P _ rfl
  refine mx_aload_n (pc := 101) 1 (mx_dd dd_X12_records_1 27 (101, .aload_n 0, 1) rfl) rfl rfl ?_
  obtain ⟨g17, P⟩ := P
  obtain ⟨b5, g18, P⟩ := P
  refine mx_getR (pc := 102) mx_fl_X12_413 g17 rfl g18 (mx_dd dd_X12_records_1 28 (102, .getfield 413, 3) rfl) ?_
  refine mx_iconst (pc := 105) (v := (3 : Int32)) (mx_dd dd_X12_records_1 29 (105, .iconst 3, 1) rfl) (by decide) ?_
  refine mx_dup2 (pc := 106) (mx_dd dd_X12_records_1 30 (106, .dup2, 1) rfl) rfl rfl ?_
  obtain ⟨g19, P⟩ := P
  obtain ⟨g20, P⟩ := P
  refine mx_iald (pc := 107) g19 g20 (mx_dd dd_X12_records_1 31 (107, .iaload, 1) rfl) ?_
  refine mx_iconst (pc := 108) (v := (1 : Int32)) (mx_dd dd_X12_records_1 32 (108, .iconst 1, 1) rfl) (by decide) ?_
  refine mx_iadd (pc := 109) (mx_dd dd_X12_records_1 33 (109, .iadd, 1) rfl) ?_
  refine mx_iast (pc := 110) g19 g20 (mx_dd dd_X12_records_1 34 (110, .iastore, 1) rfl) ?_
  have P := P _ rfl
  exact mx_return (pc := 111) (mx_dd dd_X12_records_1 35 (111, .return_, 1) rfl) rfl P
theorem b_X12_redirects {d : Nat} {h : mxH} {Q : mxRes → mxH → Prop} (x0 : Nat) (x1 : Int32) (x2 : Int32)
    (P : hpK h x0 = 12 ∧ ∃ b1 : Nat, hpR h x0 37 = some b1 ∧ hpK h b1 = 14 ∧ vp_in x2 (hpZ h b1) ∧ mx_SX mY_X12_redirects d 7 [(0, .ref x0), (1, .int x1), (3, .int (hpI h b1 x2.toNatClampNeg))] [] h Q) : mx_SM mY_X12_redirects d [.ref x0, .int x1, .int x2] h Q := by
  refine mx_SM_of (by decide) (Nat.le_of_ble_eq_true rfl) ?_
  show mx_SX mY_X12_redirects d 0 [(0, .ref x0), (1, .int x1), (2, .int x2)] [] h Q
  refine mx_aload_n (pc := 0) 0 (mx_dd dd_X12_redirects 0 (0, .aload_n 0, 1) rfl) rfl rfl ?_
  obtain ⟨g1, P⟩ := P
  obtain ⟨b1, g2, P⟩ := P
  refine mx_getR (pc := 1) mx_fl_X12_290 g1 rfl g2 (mx_dd dd_X12_redirects 1 (1, .getfield 290, 3) rfl) ?_
  refine mx_iload_n (pc := 4) 2 (mx_dd dd_X12_redirects 2 (4, .iload_n 2, 1) rfl) rfl rfl ?_
  obtain ⟨g3, P⟩ := P
  obtain ⟨g4, P⟩ := P
  refine mx_iald (pc := 5) g3 g4 (mx_dd dd_X12_redirects 3 (5, .iaload, 1) rfl) ?_
  refine mx_istore_n (pc := 6) (mx_dd dd_X12_redirects 4 (6, .istore_n 3, 1) rfl) rfl (by decide) (lv' := [(3, _), (0, _), (1, _), (2, _)]) rfl ?_
  refine mx_sel [1, 2, 0] rfl ?_
  exact P
theorem b_X12_redirects_7 {d : Nat} {h : mxH} {Q : mxRes → mxH → Prop} (x0 : Nat) (x1 : Int32) (x3 : Int32)
    (P : ((x3 = (-1 : Int32) → Q (.inl (some (.int (1 : Int32)))) h) ∧ (¬ x3 = (-1 : Int32) → 1 ≤ d ∧ hpK h x0 = 12 ∧ mx_SM mY_X12_isFor (d - 1) [.ref x0, .int x1, .int x3] h (mx_KI (fun v1 h1 => ((¬ v1 = (-2 : Int32) → hpK h1 x0 = 12 ∧ ∃ b1 : Nat, hpR h1 x0 34 = some b1 ∧ hpK h1 b1 = 14 ∧ vp_in x3 (hpZ h1 b1) ∧ mx_SM mY_X12_sets (d - 1) [.ref x0, .int x1, .int ((36 : Int32) + (hpI h1 b1 x3.toNatClampNeg)), .int v1] h1 (mx_KV (fun h2 => hpK h2 x0 = 12 ∧ ∃ b2 : Nat, hpR h2 x0 38 = some b2 ∧ hpK h2 b2 = 14 ∧ vp_in x3 (hpZ h2 b2) ∧ mx_SX mY_X12_redirects d 7 [(0, .ref x0), (1, .int x1), (3, .int (hpI h2 b2 x3.toNatClampNeg))] [] h2 Q) (mx_XX mY_X12_redirects Q))) ∧ (v1 = (-2 : Int32) → Q (.inl (some (.int (0 : Int32)))) h1))) (mx_XX mY_X12_redirects Q))))) : mx_SX mY_X12_redirects d 7 [(0, .ref x0), (1, .int x1), (3, .int x3)] [] h Q := by
  refine mx_iload_n (pc := 7) 2 (mx_dd dd_X12_redirects 5 (7, .iload_n 3, 1) rfl) rfl rfl ?_
  refine mx_iconst (pc := 8) (v := (-1 : Int32)) (mx_dd dd_X12_redirects 6 (8, .iconst (-1), 1) rfl) (by decide) ?_
  refine mx_icmp_eq (pc := 9) 55 (mx_dd dd_X12_redirects 7 (9, .if_icmp .eq 46, 3) rfl) rfl (fun c9 => ?_) (fun c9 => ?_)
  · have P := P.1 c9
    refine mx_iconst (pc := 55) (v := (1 : Int32)) (mx_dd dd_X12_redirects 34 (55, .iconst 1, 1) rfl) (by decide) ?_
    exact mx_ireturn (pc := 56) (mx_dd dd_X12_redirects 35 (56, .ireturn, 1) rfl) rfl rfl P
  · have P := P.2 c9
    refine mx_aload_n (pc := 12) 0 (mx_dd dd_X12_redirects 8 (12, .aload_n 0, 1) rfl) rfl rfl ?_
    refine mx_iload_n (pc := 13) 1 (mx_dd dd_X12_redirects 9 (13, .iload_n 1, 1) rfl) rfl rfl ?_
    refine mx_iload_n (pc := 14) 2 (mx_dd dd_X12_redirects 10 (14, .iload_n 3, 1) rfl) rfl rfl ?_
    obtain ⟨g1, P⟩ := P
    obtain ⟨g2, P⟩ := P
    refine mx_cVI (pc := 15) (Y := mY_X12_isFor) (As := [.int _, .int _]) mx_ml_X12_510 mx_y_X12_isFor rfl g2 (by decide) rfl (by decide) rfl (mx_dd dd_X12_redirects 11 (15, .invokevirtual 510, 3) rfl) g1 (by decide) P (fun v1 h1 P => ?_)
    refine mx_istore (pc := 18) (mx_dd dd_X12_redirects 12 (18, .istore 4, 2) rfl) (by decide) (lv' := [(4, _), (0, _), (1, _), (3, _)]) rfl ?_
    refine mx_iload (pc := 20) 0 (mx_dd dd_X12_redirects 13 (20, .iload 4, 2) rfl) rfl ?_
    refine mx_bipush (pc := 22) (v := (-2 : Int32)) (mx_dd dd_X12_redirects 14 (22, .bipush (-2), 2) rfl) (by decide) ?_
    refine mx_icmp_ne (pc := 24) 29 (mx_dd dd_X12_redirects 15 (24, .if_icmp .ne 5, 3) rfl) rfl (fun c24 => ?_) (fun c24 => ?_)
    · have P := P.1 c24
      refine mx_aload_n (pc := 29) 1 (mx_dd dd_X12_redirects 18 (29, .aload_n 0, 1) rfl) rfl rfl ?_
      refine mx_iload_n (pc := 30) 2 (mx_dd dd_X12_redirects 19 (30, .iload_n 1, 1) rfl) rfl rfl ?_
      refine mx_bipush (pc := 31) (v := (36 : Int32)) (mx_dd dd_X12_redirects 20 (31, .bipush 36, 2) rfl) (by decide) ?_
      refine mx_aload_n (pc := 33) 1 (mx_dd dd_X12_redirects 21 (33, .aload_n 0, 1) rfl) rfl rfl ?_
      obtain ⟨g3, P⟩ := P
      obtain ⟨b1, g4, P⟩ := P
      refine mx_getR (pc := 34) mx_fl_X12_281 g3 rfl g4 (mx_dd dd_X12_redirects 22 (34, .getfield 281, 3) rfl) ?_
      refine mx_iload_n (pc := 37) 3 (mx_dd dd_X12_redirects 23 (37, .iload_n 3, 1) rfl) rfl rfl ?_
      obtain ⟨g5, P⟩ := P
      obtain ⟨g6, P⟩ := P
      refine mx_iald (pc := 38) g5 g6 (mx_dd dd_X12_redirects 24 (38, .iaload, 1) rfl) ?_
      refine mx_iadd (pc := 39) (mx_dd dd_X12_redirects 25 (39, .iadd, 1) rfl) ?_
      refine mx_iload (pc := 40) 0 (mx_dd dd_X12_redirects 26 (40, .iload 4, 2) rfl) rfl ?_
      refine mx_cVV (pc := 42) (Y := mY_X12_sets) (As := [.int _, .int _, .int _]) mx_ml_X12_419 mx_y_X12_sets rfl g3 (by decide) rfl (by decide) rfl (mx_dd dd_X12_redirects 27 (42, .invokevirtual 419, 3) rfl) g1 (by decide) P (fun h2 P => ?_)
      refine mx_aload_n (pc := 45) 1 (mx_dd dd_X12_redirects 28 (45, .aload_n 0, 1) rfl) rfl rfl ?_
      obtain ⟨g7, P⟩ := P
      obtain ⟨b2, g8, P⟩ := P
      refine mx_getR (pc := 46) mx_fl_X12_293 g7 rfl g8 (mx_dd dd_X12_redirects 29 (46, .getfield 293, 3) rfl) ?_
      refine mx_iload_n (pc := 49) 3 (mx_dd dd_X12_redirects 30 (49, .iload_n 3, 1) rfl) rfl rfl ?_
      obtain ⟨g9, P⟩ := P
      obtain ⟨g10, P⟩ := P
      refine mx_iald (pc := 50) g9 g10 (mx_dd dd_X12_redirects 31 (50, .iaload, 1) rfl) ?_
      refine mx_istore_n (pc := 51) (mx_dd dd_X12_redirects 32 (51, .istore_n 3, 1) rfl) rfl (by decide) (lv' := [(3, _), (4, _), (0, _), (1, _)]) rfl ?_
      refine mx_goto (pc := 52) 7 (mx_dd dd_X12_redirects 33 (52, .goto (-45), 3) rfl) rfl ?_
      refine mx_sel [2, 3, 0] rfl ?_
      exact P
    · have P := P.2 c24
      refine mx_iconst (pc := 27) (v := (0 : Int32)) (mx_dd dd_X12_redirects 16 (27, .iconst 0, 1) rfl) (by decide) ?_
      exact mx_ireturn (pc := 28) (mx_dd dd_X12_redirects 17 (28, .ireturn, 1) rfl) rfl rfl P
theorem b_X12_isFor {d : Nat} {h : mxH} {Q : mxRes → mxH → Prop} (x0 : Nat) (x1 : Int32) (x2 : Int32)
    (P : hpK h x0 = 12 ∧ ∃ b1 : Nat, hpR h x0 35 = some b1 ∧ hpK h b1 = 14 ∧ vp_in x2 (hpZ h b1) ∧ (((hpI h b1 x2.toNatClampNeg) = (15398 : Int32) → mx_SX mY_X12_isFor d 24 [(0, .ref x0), (1, .int x1), (2, .int x2)] [] h Q) ∧ (¬ (hpI h b1 x2.toNatClampNeg) = (15398 : Int32) → ((¬ (hpI h b1 x2.toNatClampNeg) = (15910 : Int32) → ((¬ (hpI h b1 x2.toNatClampNeg) = (60 : Int32) → ∃ b2 : Nat, hpR h x0 40 = some b2 ∧ hpK h b2 = 15 ∧ vp_in x2 (hpZ h b2) ∧ 1 ≤ d ∧ mx_SM mY_X12_makes (d - 1) [.ref x0, .long (hpL h b2 x2.toNatClampNeg)] h (mx_KI (fun v1 h1 => ((¬ v1 = (-1 : Int32) → hpK h1 x0 = 12 ∧ ∃ b3 : Nat, hpR h1 x0 35 = some b3 ∧ hpK h1 b3 = 14 ∧ vp_in x2 (hpZ h1 b3) ∧ ((¬ (hpI h1 b3 x2.toNatClampNeg) = (62 : Int32) → mx_SX mY_X12_isFor d 136 [(0, .ref x0), (2, .int x2), (3, .int v1)] [] h1 Q) ∧ ((hpI h1 b3 x2.toNatClampNeg) = (62 : Int32) → ∃ b4 : Nat, hpR h1 x0 56 = some b4 ∧ hpK h1 b4 = 14 ∧ vp_in ((1 : Int32) + ((41 : Int32) * v1)) (hpZ h1 b4) ∧ ∀ h2 : mxH, h2 = hsI h1 b4 ((1 : Int32) + ((41 : Int32) * v1)).toNatClampNeg (0 : Int32) → mx_SX mY_X12_isFor d 136 [(0, .ref x0), (2, .int x2), (3, .int v1)] [] h2 Q))) ∧ (v1 = (-1 : Int32) → Q (.inl (some (.int (-2 : Int32)))) h1))) (mx_XX mY_X12_isFor Q))) ∧ ((hpI h b1 x2.toNatClampNeg) = (60 : Int32) → ∃ b5 : Nat, hpR h x0 40 = some b5 ∧ hpK h b5 = 15 ∧ vp_in x2 (hpZ h b5) ∧ 1 ≤ d ∧ mx_SM mY_X12_fileOf (d - 1) [.ref x0, .long (hpL h b5 x2.toNatClampNeg)] h (mx_KI (fun v2 h3 => ((¬ v2 = (-1 : Int32) → hpK h3 x0 = 12 ∧ ∃ b6 : Nat, hpR h3 x0 35 = some b6 ∧ hpK h3 b6 = 14 ∧ vp_in x2 (hpZ h3 b6) ∧ ((¬ (hpI h3 b6 x2.toNatClampNeg) = (62 : Int32) → mx_SX mY_X12_isFor d 136 [(0, .ref x0), (2, .int x2), (3, .int v2)] [] h3 Q) ∧ ((hpI h3 b6 x2.toNatClampNeg) = (62 : Int32) → ∃ b7 : Nat, hpR h3 x0 56 = some b7 ∧ hpK h3 b7 = 14 ∧ vp_in ((1 : Int32) + ((41 : Int32) * v2)) (hpZ h3 b7) ∧ ∀ h4 : mxH, h4 = hsI h3 b7 ((1 : Int32) + ((41 : Int32) * v2)).toNatClampNeg (0 : Int32) → mx_SX mY_X12_isFor d 136 [(0, .ref x0), (2, .int x2), (3, .int v2)] [] h4 Q))) ∧ (v2 = (-1 : Int32) → Q (.inl (some (.int (-2 : Int32)))) h3))) (mx_XX mY_X12_isFor Q))))) ∧ ((hpI h b1 x2.toNatClampNeg) = (15910 : Int32) → mx_SX mY_X12_isFor d 24 [(0, .ref x0), (1, .int x1), (2, .int x2)] [] h Q))))) : mx_SM mY_X12_isFor d [.ref x0, .int x1, .int x2] h Q := by
  refine mx_SM_of (by decide) (Nat.le_of_ble_eq_true rfl) ?_
  show mx_SX mY_X12_isFor d 0 [(0, .ref x0), (1, .int x1), (2, .int x2)] [] h Q
  refine mx_aload_n (pc := 0) 0 (mx_dd dd_X12_isFor_0 0 (0, .aload_n 0, 1) rfl) rfl rfl ?_
  obtain ⟨g1, P⟩ := P
  obtain ⟨b1, g2, P⟩ := P
  refine mx_getR (pc := 1) mx_fl_X12_284 g1 rfl g2 (mx_dd dd_X12_isFor_0 1 (1, .getfield 284, 3) rfl) ?_
  refine mx_iload_n (pc := 4) 2 (mx_dd dd_X12_isFor_0 2 (4, .iload_n 2, 1) rfl) rfl rfl ?_
  obtain ⟨g3, P⟩ := P
  obtain ⟨g4, P⟩ := P
  refine mx_iald (pc := 5) g3 g4 (mx_dd dd_X12_isFor_0 3 (5, .iaload, 1) rfl) ?_
  refine mx_sipush (pc := 6) (v := (15398 : Int32)) (mx_dd dd_X12_isFor_0 4 (6, .sipush 15398, 3) rfl) (by decide) ?_
  refine mx_icmp_eq (pc := 9) 24 (mx_dd dd_X12_isFor_0 5 (9, .if_icmp .eq 15, 3) rfl) rfl (fun c9 => ?_) (fun c9 => ?_)
  · have P := P.1 c9
    exact P
  · have P := P.2 c9
    refine mx_aload_n (pc := 12) 0 (mx_dd dd_X12_isFor_0 6 (12, .aload_n 0, 1) rfl) rfl rfl ?_
    refine mx_getR (pc := 13) mx_fl_X12_284 g1 rfl g2 (mx_dd dd_X12_isFor_0 7 (13, .getfield 284, 3) rfl) ?_
    refine mx_iload_n (pc := 16) 2 (mx_dd dd_X12_isFor_0 8 (16, .iload_n 2, 1) rfl) rfl rfl ?_
    refine mx_iald (pc := 17) g3 g4 (mx_dd dd_X12_isFor_0 9 (17, .iaload, 1) rfl) ?_
    refine mx_sipush (pc := 18) (v := (15910 : Int32)) (mx_dd dd_X12_isFor_0 10 (18, .sipush 15910, 3) rfl) (by decide) ?_
    refine mx_icmp_ne (pc := 21) 70 (mx_dd dd_X12_isFor_0 11 (21, .if_icmp .ne 49, 3) rfl) rfl (fun c21 => ?_) (fun c21 => ?_)
    · have P := P.1 c21
      refine mx_aload_n (pc := 70) 0 (mx_dd dd_X12_isFor_0 39 (70, .aload_n 0, 1) rfl) rfl rfl ?_
      refine mx_getR (pc := 71) mx_fl_X12_284 g1 rfl g2 (mx_dd dd_X12_isFor_1 0 (71, .getfield 284, 3) rfl) ?_
      refine mx_iload_n (pc := 74) 2 (mx_dd dd_X12_isFor_1 1 (74, .iload_n 2, 1) rfl) rfl rfl ?_
      refine mx_iald (pc := 75) g3 g4 (mx_dd dd_X12_isFor_1 2 (75, .iaload, 1) rfl) ?_
      refine mx_bipush (pc := 76) (v := (60 : Int32)) (mx_dd dd_X12_isFor_1 3 (76, .bipush 60, 2) rfl) (by decide) ?_
      refine mx_icmp_ne (pc := 78) 94 (mx_dd dd_X12_isFor_1 4 (78, .if_icmp .ne 16, 3) rfl) rfl (fun c78 => ?_) (fun c78 => ?_)
      · have P := P.1 c78
        refine mx_aload_n (pc := 94) 0 (mx_dd dd_X12_isFor_1 12 (94, .aload_n 0, 1) rfl) rfl rfl ?_
        refine mx_aload_n (pc := 95) 0 (mx_dd dd_X12_isFor_1 13 (95, .aload_n 0, 1) rfl) rfl rfl ?_
        obtain ⟨b2, g5, P⟩ := P
        refine mx_getR (pc := 96) mx_fl_X12_299 g1 rfl g5 (mx_dd dd_X12_isFor_1 14 (96, .getfield 299, 3) rfl) ?_
        refine mx_iload_n (pc := 99) 2 (mx_dd dd_X12_isFor_1 15 (99, .iload_n 2, 1) rfl) rfl rfl ?_
        obtain ⟨g6, P⟩ := P
        obtain ⟨g7, P⟩ := P
        refine mx_lald (pc := 100) g6 g7 (mx_dd dd_X12_isFor_1 16 (100, .laload, 1) rfl) ?_
        obtain ⟨g8, P⟩ := P
        refine mx_cVI (pc := 101) (Y := mY_X12_makes) (As := [.long _]) mx_ml_X12_513 mx_y_X12_makes rfl g1 (by decide) rfl (by decide) rfl (mx_dd dd_X12_isFor_1 17 (101, .invokevirtual 513, 3) rfl) g8 (by decide) P (fun v1 h1 P => ?_)
        refine mx_istore_n (pc := 104) (mx_dd dd_X12_isFor_1 18 (104, .istore_n 3, 1) rfl) rfl (by decide) (lv' := [(3, _), (0, _), (1, _), (2, _)]) rfl ?_
        refine mx_iload_n (pc := 105) 0 (mx_dd dd_X12_isFor_1 19 (105, .iload_n 3, 1) rfl) rfl rfl ?_
        refine mx_iconst (pc := 106) (v := (-1 : Int32)) (mx_dd dd_X12_isFor_1 20 (106, .iconst (-1), 1) rfl) (by decide) ?_
        refine mx_icmp_ne (pc := 107) 113 (mx_dd dd_X12_isFor_1 21 (107, .if_icmp .ne 6, 3) rfl) rfl (fun c107 => ?_) (fun c107 => ?_)
        · have P := P.1 c107
          refine mx_aload_n (pc := 113) 1 (mx_dd dd_X12_isFor_1 24 (113, .aload_n 0, 1) rfl) rfl rfl ?_
          obtain ⟨g9, P⟩ := P
          obtain ⟨b3, g10, P⟩ := P
          refine mx_getR (pc := 114) mx_fl_X12_284 g9 rfl g10 (mx_dd dd_X12_isFor_1 25 (114, .getfield 284, 3) rfl) ?_
          refine mx_iload_n (pc := 117) 3 (mx_dd dd_X12_isFor_1 26 (117, .iload_n 2, 1) rfl) rfl rfl ?_
          obtain ⟨g11, P⟩ := P
          obtain ⟨g12, P⟩ := P
          refine mx_iald (pc := 118) g11 g12 (mx_dd dd_X12_isFor_1 27 (118, .iaload, 1) rfl) ?_
          refine mx_bipush (pc := 119) (v := (62 : Int32)) (mx_dd dd_X12_isFor_1 28 (119, .bipush 62, 2) rfl) (by decide) ?_
          refine mx_icmp_ne (pc := 121) 136 (mx_dd dd_X12_isFor_1 29 (121, .if_icmp .ne 15, 3) rfl) rfl (fun c121 => ?_) (fun c121 => ?_)
          · have P := P.1 c121
            refine mx_sel [1, 3, 0] rfl ?_
            exact P
          · have P := P.2 c121
            refine mx_aload_n (pc := 124) 1 (mx_dd dd_X12_isFor_1 30 (124, .aload_n 0, 1) rfl) rfl rfl ?_
            obtain ⟨b4, g13, P⟩ := P
            refine mx_getR (pc := 125) mx_fl_X12_312 g9 rfl g13 (mx_dd dd_X12_isFor_1 31 (125, .getfield 312, 3) rfl) ?_
            refine mx_iconst (pc := 128) (v := (1 : Int32)) (mx_dd dd_X12_isFor_1 32 (128, .iconst 1, 1) rfl) (by decide) ?_
            refine mx_bipush (pc := 129) (v := (41 : Int32)) (mx_dd dd_X12_isFor_1 33 (129, .bipush 41, 2) rfl) (by decide) ?_
            refine mx_iload_n (pc := 131) 0 (mx_dd dd_X12_isFor_1 34 (131, .iload_n 3, 1) rfl) rfl rfl ?_
            refine mx_imul (pc := 132) (mx_dd dd_X12_isFor_1 35 (132, .imul, 1) rfl) ?_
            refine mx_iadd (pc := 133) (mx_dd dd_X12_isFor_1 36 (133, .iadd, 1) rfl) ?_
            refine mx_iconst (pc := 134) (v := (0 : Int32)) (mx_dd dd_X12_isFor_1 37 (134, .iconst 0, 1) rfl) (by decide) ?_
            obtain ⟨g14, P⟩ := P
            obtain ⟨g15, P⟩ := P
            refine mx_iast (pc := 135) g14 g15 (mx_dd dd_X12_isFor_1 38 (135, .iastore, 1) rfl) ?_
            have P := P _ rfl
            refine mx_sel [1, 3, 0] rfl ?_
            exact P
        · have P := P.2 c107
          refine mx_bipush (pc := 110) (v := (-2 : Int32)) (mx_dd dd_X12_isFor_1 22 (110, .bipush (-2), 2) rfl) (by decide) ?_
          exact mx_ireturn (pc := 112) (mx_dd dd_X12_isFor_1 23 (112, .ireturn, 1) rfl) rfl rfl P
      · have P := P.2 c78
        refine mx_aload_n (pc := 81) 0 (mx_dd dd_X12_isFor_1 5 (81, .aload_n 0, 1) rfl) rfl rfl ?_
        refine mx_aload_n (pc := 82) 0 (mx_dd dd_X12_isFor_1 6 (82, .aload_n 0, 1) rfl) rfl rfl ?_
        obtain ⟨b5, g16, P⟩ := P
        refine mx_getR (pc := 83) mx_fl_X12_299 g1 rfl g16 (mx_dd dd_X12_isFor_1 7 (83, .getfield 299, 3) rfl) ?_
        refine mx_iload_n (pc := 86) 2 (mx_dd dd_X12_isFor_1 8 (86, .iload_n 2, 1) rfl) rfl rfl ?_
        obtain ⟨g17, P⟩ := P
        obtain ⟨g18, P⟩ := P
        refine mx_lald (pc := 87) g17 g18 (mx_dd dd_X12_isFor_1 9 (87, .laload, 1) rfl) ?_
        obtain ⟨g19, P⟩ := P
        refine mx_cVI (pc := 88) (Y := mY_X12_fileOf) (As := [.long _]) mx_ml_X12_364 mx_y_X12_fileOf rfl g1 (by decide) rfl (by decide) rfl (mx_dd dd_X12_isFor_1 10 (88, .invokevirtual 364, 3) rfl) g19 (by decide) P (fun v2 h3 P => ?_)
        refine mx_goto (pc := 91) 104 (mx_dd dd_X12_isFor_1 11 (91, .goto 13, 3) rfl) rfl ?_
        refine mx_istore_n (pc := 104) (mx_dd dd_X12_isFor_1 18 (104, .istore_n 3, 1) rfl) rfl (by decide) (lv' := [(3, _), (0, _), (1, _), (2, _)]) rfl ?_
        refine mx_iload_n (pc := 105) 0 (mx_dd dd_X12_isFor_1 19 (105, .iload_n 3, 1) rfl) rfl rfl ?_
        refine mx_iconst (pc := 106) (v := (-1 : Int32)) (mx_dd dd_X12_isFor_1 20 (106, .iconst (-1), 1) rfl) (by decide) ?_
        refine mx_icmp_ne (pc := 107) 113 (mx_dd dd_X12_isFor_1 21 (107, .if_icmp .ne 6, 3) rfl) rfl (fun c107 => ?_) (fun c107 => ?_)
        · have P := P.1 c107
          refine mx_aload_n (pc := 113) 1 (mx_dd dd_X12_isFor_1 24 (113, .aload_n 0, 1) rfl) rfl rfl ?_
          obtain ⟨g20, P⟩ := P
          obtain ⟨b6, g21, P⟩ := P
          refine mx_getR (pc := 114) mx_fl_X12_284 g20 rfl g21 (mx_dd dd_X12_isFor_1 25 (114, .getfield 284, 3) rfl) ?_
          refine mx_iload_n (pc := 117) 3 (mx_dd dd_X12_isFor_1 26 (117, .iload_n 2, 1) rfl) rfl rfl ?_
          obtain ⟨g22, P⟩ := P
          obtain ⟨g23, P⟩ := P
          refine mx_iald (pc := 118) g22 g23 (mx_dd dd_X12_isFor_1 27 (118, .iaload, 1) rfl) ?_
          refine mx_bipush (pc := 119) (v := (62 : Int32)) (mx_dd dd_X12_isFor_1 28 (119, .bipush 62, 2) rfl) (by decide) ?_
          refine mx_icmp_ne (pc := 121) 136 (mx_dd dd_X12_isFor_1 29 (121, .if_icmp .ne 15, 3) rfl) rfl (fun c121 => ?_) (fun c121 => ?_)
          · have P := P.1 c121
            refine mx_sel [1, 3, 0] rfl ?_
            exact P
          · have P := P.2 c121
            refine mx_aload_n (pc := 124) 1 (mx_dd dd_X12_isFor_1 30 (124, .aload_n 0, 1) rfl) rfl rfl ?_
            obtain ⟨b7, g24, P⟩ := P
            refine mx_getR (pc := 125) mx_fl_X12_312 g20 rfl g24 (mx_dd dd_X12_isFor_1 31 (125, .getfield 312, 3) rfl) ?_
            refine mx_iconst (pc := 128) (v := (1 : Int32)) (mx_dd dd_X12_isFor_1 32 (128, .iconst 1, 1) rfl) (by decide) ?_
            refine mx_bipush (pc := 129) (v := (41 : Int32)) (mx_dd dd_X12_isFor_1 33 (129, .bipush 41, 2) rfl) (by decide) ?_
            refine mx_iload_n (pc := 131) 0 (mx_dd dd_X12_isFor_1 34 (131, .iload_n 3, 1) rfl) rfl rfl ?_
            refine mx_imul (pc := 132) (mx_dd dd_X12_isFor_1 35 (132, .imul, 1) rfl) ?_
            refine mx_iadd (pc := 133) (mx_dd dd_X12_isFor_1 36 (133, .iadd, 1) rfl) ?_
            refine mx_iconst (pc := 134) (v := (0 : Int32)) (mx_dd dd_X12_isFor_1 37 (134, .iconst 0, 1) rfl) (by decide) ?_
            obtain ⟨g25, P⟩ := P
            obtain ⟨g26, P⟩ := P
            refine mx_iast (pc := 135) g25 g26 (mx_dd dd_X12_isFor_1 38 (135, .iastore, 1) rfl) ?_
            have P := P _ rfl
            refine mx_sel [1, 3, 0] rfl ?_
            exact P
        · have P := P.2 c107
          refine mx_bipush (pc := 110) (v := (-2 : Int32)) (mx_dd dd_X12_isFor_1 22 (110, .bipush (-2), 2) rfl) (by decide) ?_
          exact mx_ireturn (pc := 112) (mx_dd dd_X12_isFor_1 23 (112, .ireturn, 1) rfl) rfl rfl P
    · have P := P.2 c21
      exact P
theorem b_X12_isFor_24 {d : Nat} {h : mxH} {Q : mxRes → mxH → Prop} (x0 : Nat) (x1 : Int32) (x2 : Int32)
    (P : hpK h x0 = 12 ∧ ∃ b1 : Nat, hpR h x0 36 = some b1 ∧ hpK h b1 = 14 ∧ vp_in x2 (hpZ h b1) ∧ ((¬ (hpI h b1 x2.toNatClampNeg) = (-1 : Int32) → 1 ≤ d ∧ mx_SM mY_X12_handle (d - 1) [.ref x0, .int x1, .int (hpI h b1 x2.toNatClampNeg)] h (mx_KI (fun v1 h1 => ((¬ v1 = (-1 : Int32) → hpK h1 x0 = 12 ∧ ∃ b2 : Nat, hpR h1 x0 36 = some b2 ∧ hpK h1 b2 = 14 ∧ vp_in x2 (hpZ h1 b2) ∧ mx_SM mY_X12_handle (d - 1) [.ref x0, .int x1, .int (hpI h1 b2 x2.toNatClampNeg)] h1 (mx_KI (fun v2 h2 => Q (.inl (some (.int v2))) h2) (mx_XX mY_X12_isFor Q))) ∧ (v1 = (-1 : Int32) → Q (.inl (some (.int (-2 : Int32)))) h1))) (mx_XX mY_X12_isFor Q))) ∧ ((hpI h b1 x2.toNatClampNeg) = (-1 : Int32) → Q (.inl (some (.int (-1 : Int32)))) h))) : mx_SX mY_X12_isFor d 24 [(0, .ref x0), (1, .int x1), (2, .int x2)] [] h Q := by
  refine mx_aload_n (pc := 24) 0 (mx_dd dd_X12_isFor_0 12 (24, .aload_n 0, 1) rfl) rfl rfl ?_
  obtain ⟨g1, P⟩ := P
  obtain ⟨b1, g2, P⟩ := P
  refine mx_getR (pc := 25) mx_fl_X12_287 g1 rfl g2 (mx_dd dd_X12_isFor_0 13 (25, .getfield 287, 3) rfl) ?_
  refine mx_iload_n (pc := 28) 2 (mx_dd dd_X12_isFor_0 14 (28, .iload_n 2, 1) rfl) rfl rfl ?_
  obtain ⟨g3, P⟩ := P
  obtain ⟨g4, P⟩ := P
  refine mx_iald (pc := 29) g3 g4 (mx_dd dd_X12_isFor_0 15 (29, .iaload, 1) rfl) ?_
  refine mx_iconst (pc := 30) (v := (-1 : Int32)) (mx_dd dd_X12_isFor_0 16 (30, .iconst (-1), 1) rfl) (by decide) ?_
  refine mx_icmp_ne (pc := 31) 38 (mx_dd dd_X12_isFor_0 17 (31, .if_icmp .ne 7, 3) rfl) rfl (fun c31 => ?_) (fun c31 => ?_)
  · have P := P.1 c31
    refine mx_aload_n (pc := 38) 0 (mx_dd dd_X12_isFor_0 20 (38, .aload_n 0, 1) rfl) rfl rfl ?_
    refine mx_iload_n (pc := 39) 1 (mx_dd dd_X12_isFor_0 21 (39, .iload_n 1, 1) rfl) rfl rfl ?_
    refine mx_aload_n (pc := 40) 0 (mx_dd dd_X12_isFor_0 22 (40, .aload_n 0, 1) rfl) rfl rfl ?_
    refine mx_getR (pc := 41) mx_fl_X12_287 g1 rfl g2 (mx_dd dd_X12_isFor_0 23 (41, .getfield 287, 3) rfl) ?_
    refine mx_iload_n (pc := 44) 2 (mx_dd dd_X12_isFor_0 24 (44, .iload_n 2, 1) rfl) rfl rfl ?_
    refine mx_iald (pc := 45) g3 g4 (mx_dd dd_X12_isFor_0 25 (45, .iaload, 1) rfl) ?_
    obtain ⟨g5, P⟩ := P
    refine mx_cVI (pc := 46) (Y := mY_X12_handle) (As := [.int _, .int _]) mx_ml_X12_371 mx_y_X12_handle rfl g1 (by decide) rfl (by decide) rfl (mx_dd dd_X12_isFor_0 26 (46, .invokevirtual 371, 3) rfl) g5 (by decide) P (fun v1 h1 P => ?_)
    refine mx_iconst (pc := 49) (v := (-1 : Int32)) (mx_dd dd_X12_isFor_0 27 (49, .iconst (-1), 1) rfl) (by decide) ?_
    refine mx_icmp_ne (pc := 50) 58 (mx_dd dd_X12_isFor_0 28 (50, .if_icmp .ne 8, 3) rfl) rfl (fun c50 => ?_) (fun c50 => ?_)
    · have P := P.1 c50
      refine mx_aload_n (pc := 58) 0 (mx_dd dd_X12_isFor_0 31 (58, .aload_n 0, 1) rfl) rfl rfl ?_
      refine mx_iload_n (pc := 59) 1 (mx_dd dd_X12_isFor_0 32 (59, .iload_n 1, 1) rfl) rfl rfl ?_
      refine mx_aload_n (pc := 60) 0 (mx_dd dd_X12_isFor_0 33 (60, .aload_n 0, 1) rfl) rfl rfl ?_
      obtain ⟨g6, P⟩ := P
      obtain ⟨b2, g7, P⟩ := P
      refine mx_getR (pc := 61) mx_fl_X12_287 g6 rfl g7 (mx_dd dd_X12_isFor_0 34 (61, .getfield 287, 3) rfl) ?_
      refine mx_iload_n (pc := 64) 2 (mx_dd dd_X12_isFor_0 35 (64, .iload_n 2, 1) rfl) rfl rfl ?_
      obtain ⟨g8, P⟩ := P
      obtain ⟨g9, P⟩ := P
      refine mx_iald (pc := 65) g8 g9 (mx_dd dd_X12_isFor_0 36 (65, .iaload, 1) rfl) ?_
      refine mx_cVI (pc := 66) (Y := mY_X12_handle) (As := [.int _, .int _]) mx_ml_X12_371 mx_y_X12_handle rfl g6 (by decide) rfl (by decide) rfl (mx_dd dd_X12_isFor_0 37 (66, .invokevirtual 371, 3) rfl) g5 (by decide) P (fun v2 h2 P => ?_)
      exact mx_ireturn (pc := 69) (mx_dd dd_X12_isFor_0 38 (69, .ireturn, 1) rfl) rfl rfl P
    · have P := P.2 c50
      refine mx_bipush (pc := 53) (v := (-2 : Int32)) (mx_dd dd_X12_isFor_0 29 (53, .bipush (-2), 2) rfl) (by decide) ?_
      refine mx_goto (pc := 55) 69 (mx_dd dd_X12_isFor_0 30 (55, .goto 14, 3) rfl) rfl ?_
      exact mx_ireturn (pc := 69) (mx_dd dd_X12_isFor_0 38 (69, .ireturn, 1) rfl) rfl rfl P
  · have P := P.2 c31
    refine mx_iconst (pc := 34) (v := (-1 : Int32)) (mx_dd dd_X12_isFor_0 18 (34, .iconst (-1), 1) rfl) (by decide) ?_
    refine mx_goto (pc := 35) 69 (mx_dd dd_X12_isFor_0 19 (35, .goto 34, 3) rfl) rfl ?_
    exact mx_ireturn (pc := 69) (mx_dd dd_X12_isFor_0 38 (69, .ireturn, 1) rfl) rfl rfl P
theorem b_X12_isFor_136 {d : Nat} {h : mxH} {Q : mxRes → mxH → Prop} (x0 : Nat) (x2 : Int32) (x3 : Int32)
    (P : hpK h x0 = 12 ∧ ∃ b1 : Nat, hpR h x0 35 = some b1 ∧ hpK h b1 = 14 ∧ vp_in x2 (hpZ h b1) ∧ ((¬ (hpI h b1 x2.toNatClampNeg) = (60 : Int32) → ((¬ (hpI h b1 x2.toNatClampNeg) = (62 : Int32) → 1 ≤ d ∧ mx_SM mY_X12_opened (d - 1) [.ref x0, .int (4 : Int32), .int x3] h (mx_KI (fun v1 h1 => Q (.inl (some (.int v1))) h1) (mx_XX mY_X12_isFor Q))) ∧ ((hpI h b1 x2.toNatClampNeg) = (62 : Int32) → 1 ≤ d ∧ mx_SM mY_X12_opened (d - 1) [.ref x0, .int (3 : Int32), .int x3] h (mx_KI (fun v2 h2 => Q (.inl (some (.int v2))) h2) (mx_XX mY_X12_isFor Q))))) ∧ ((hpI h b1 x2.toNatClampNeg) = (60 : Int32) → 1 ≤ d ∧ mx_SM mY_X12_opened (d - 1) [.ref x0, .int (2 : Int32), .int x3] h (mx_KI (fun v3 h3 => Q (.inl (some (.int v3))) h3) (mx_XX mY_X12_isFor Q))))) : mx_SX mY_X12_isFor d 136 [(0, .ref x0), (2, .int x2), (3, .int x3)] [] h Q := by
  refine mx_aload_n (pc := 136) 0 (mx_dd dd_X12_isFor_1 39 (136, .aload_n 0, 1) rfl) rfl rfl ?_
  refine mx_aload_n (pc := 137) 0 (mx_dd dd_X12_isFor_2 0 (137, .aload_n 0, 1) rfl) rfl rfl ?_
  obtain ⟨g1, P⟩ := P
  obtain ⟨b1, g2, P⟩ := P
  refine mx_getR (pc := 138) mx_fl_X12_284 g1 rfl g2 (mx_dd dd_X12_isFor_2 1 (138, .getfield 284, 3) rfl) ?_
  refine mx_iload_n (pc := 141) 1 (mx_dd dd_X12_isFor_2 2 (141, .iload_n 2, 1) rfl) rfl rfl ?_
  obtain ⟨g3, P⟩ := P
  obtain ⟨g4, P⟩ := P
  refine mx_iald (pc := 142) g3 g4 (mx_dd dd_X12_isFor_2 3 (142, .iaload, 1) rfl) ?_
  refine mx_bipush (pc := 143) (v := (60 : Int32)) (mx_dd dd_X12_isFor_2 4 (143, .bipush 60, 2) rfl) (by decide) ?_
  refine mx_icmp_ne (pc := 145) 152 (mx_dd dd_X12_isFor_2 5 (145, .if_icmp .ne 7, 3) rfl) rfl (fun c145 => ?_) (fun c145 => ?_)
  · have P := P.1 c145
    refine mx_aload_n (pc := 152) 0 (mx_dd dd_X12_isFor_2 8 (152, .aload_n 0, 1) rfl) rfl rfl ?_
    refine mx_getR (pc := 153) mx_fl_X12_284 g1 rfl g2 (mx_dd dd_X12_isFor_2 9 (153, .getfield 284, 3) rfl) ?_
    refine mx_iload_n (pc := 156) 1 (mx_dd dd_X12_isFor_2 10 (156, .iload_n 2, 1) rfl) rfl rfl ?_
    refine mx_iald (pc := 157) g3 g4 (mx_dd dd_X12_isFor_2 11 (157, .iaload, 1) rfl) ?_
    refine mx_bipush (pc := 158) (v := (62 : Int32)) (mx_dd dd_X12_isFor_2 12 (158, .bipush 62, 2) rfl) (by decide) ?_
    refine mx_icmp_ne (pc := 160) 167 (mx_dd dd_X12_isFor_2 13 (160, .if_icmp .ne 7, 3) rfl) rfl (fun c160 => ?_) (fun c160 => ?_)
    · have P := P.1 c160
      refine mx_iconst (pc := 167) (v := (4 : Int32)) (mx_dd dd_X12_isFor_2 16 (167, .iconst 4, 1) rfl) (by decide) ?_
      refine mx_iload_n (pc := 168) 2 (mx_dd dd_X12_isFor_2 17 (168, .iload_n 3, 1) rfl) rfl rfl ?_
      obtain ⟨g5, P⟩ := P
      refine mx_cVI (pc := 169) (Y := mY_X12_opened) (As := [.int _, .int _]) mx_ml_X12_410 mx_y_X12_opened rfl g1 (by decide) rfl (by decide) rfl (mx_dd dd_X12_isFor_2 18 (169, .invokevirtual 410, 3) rfl) g5 (by decide) P (fun v1 h1 P => ?_)
      exact mx_ireturn (pc := 172) (mx_dd dd_X12_isFor_2 19 (172, .ireturn, 1) rfl) rfl rfl P
    · have P := P.2 c160
      refine mx_iconst (pc := 163) (v := (3 : Int32)) (mx_dd dd_X12_isFor_2 14 (163, .iconst 3, 1) rfl) (by decide) ?_
      refine mx_goto (pc := 164) 168 (mx_dd dd_X12_isFor_2 15 (164, .goto 4, 3) rfl) rfl ?_
      refine mx_iload_n (pc := 168) 2 (mx_dd dd_X12_isFor_2 17 (168, .iload_n 3, 1) rfl) rfl rfl ?_
      obtain ⟨g6, P⟩ := P
      refine mx_cVI (pc := 169) (Y := mY_X12_opened) (As := [.int _, .int _]) mx_ml_X12_410 mx_y_X12_opened rfl g1 (by decide) rfl (by decide) rfl (mx_dd dd_X12_isFor_2 18 (169, .invokevirtual 410, 3) rfl) g6 (by decide) P (fun v2 h2 P => ?_)
      exact mx_ireturn (pc := 172) (mx_dd dd_X12_isFor_2 19 (172, .ireturn, 1) rfl) rfl rfl P
  · have P := P.2 c145
    refine mx_iconst (pc := 148) (v := (2 : Int32)) (mx_dd dd_X12_isFor_2 6 (148, .iconst 2, 1) rfl) (by decide) ?_
    refine mx_goto (pc := 149) 168 (mx_dd dd_X12_isFor_2 7 (149, .goto 19, 3) rfl) rfl ?_
    refine mx_iload_n (pc := 168) 2 (mx_dd dd_X12_isFor_2 17 (168, .iload_n 3, 1) rfl) rfl rfl ?_
    obtain ⟨g7, P⟩ := P
    refine mx_cVI (pc := 169) (Y := mY_X12_opened) (As := [.int _, .int _]) mx_ml_X12_410 mx_y_X12_opened rfl g1 (by decide) rfl (by decide) rfl (mx_dd dd_X12_isFor_2 18 (169, .invokevirtual 410, 3) rfl) g7 (by decide) P (fun v3 h3 P => ?_)
    exact mx_ireturn (pc := 172) (mx_dd dd_X12_isFor_2 19 (172, .ireturn, 1) rfl) rfl rfl P
