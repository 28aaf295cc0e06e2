/-! PRINTED by wip/whole/genblocks.py: the blocks of the reference -/
theorem b_X12_thrown {d : Nat} {h : mxH} {Q : mxRes → mxH → Prop} (x0 : Nat)
    (P : hpK h x0 = 12 ∧ Q (.inl (some (.int (hpI h x0 0)))) h) : mx_SM mY_X12_thrown d [.ref x0] h Q := by
  refine mx_SM_of (by decide) (Nat.le_of_ble_eq_true rfl) ?_
  show mx_SX mY_X12_thrown d 0 [(0, .ref x0)] [] h Q
  refine mx_aload_n (pc := 0) 0 (mx_dd dd_X12_thrown 0 (0, .aload_n 0, 1) rfl) rfl rfl ?_
  obtain ⟨g1, P⟩ := P
  refine mx_getI (pc := 1) mx_fl_X12_3 g1 rfl (mx_dd dd_X12_thrown 1 (1, .getfield 3, 3) rfl) ?_
  exact mx_ireturn (pc := 4) (mx_dd dd_X12_thrown 2 (4, .ireturn, 1) rfl) rfl rfl P
theorem b_X12_throwsIf {d : Nat} {h : mxH} {Q : mxRes → mxH → Prop} (x0 : Nat) (x1 : Int32) (x2 : Int32)
    (P : ((x1 = 0 → (x1 = 0 ∨ x1 = 1) ∧ Q (.inl (some (.int x1))) h) ∧ (¬ x1 = 0 → hpK h x0 = 12 ∧ ∀ h1 : mxH, h1 = hsI h x0 0 x2 → (x1 = 0 ∨ x1 = 1) ∧ Q (.inl (some (.int x1))) h1))) : mx_SM mY_X12_throwsIf d [.ref x0, .int x1, .int x2] h Q := by
  refine mx_SM_of (by decide) (Nat.le_of_ble_eq_true rfl) ?_
  show mx_SX mY_X12_throwsIf d 0 [(0, .ref x0), (1, .int x1), (2, .int x2)] [] h Q
  refine mx_iload_n (pc := 0) 1 (mx_dd dd_X12_throwsIf 0 (0, .iload_n 1, 1) rfl) rfl rfl ?_
  refine mx_if_eq (pc := 1) 9 (mx_dd dd_X12_throwsIf 1 (1, .ifCond .eq 8, 3) rfl) rfl (fun c1 => ?_) (fun c1 => ?_)
  · have P := P.1 c1
    refine mx_iload_n (pc := 9) 1 (mx_dd dd_X12_throwsIf 5 (9, .iload_n 1, 1) rfl) rfl rfl ?_
    obtain ⟨g1, P⟩ := P
    exact mx_ireturn (pc := 10) (mx_dd dd_X12_throwsIf 6 (10, .ireturn, 1) rfl) rfl (mx_nb g1).1 P
  · have P := P.2 c1
    refine mx_aload_n (pc := 4) 0 (mx_dd dd_X12_throwsIf 2 (4, .aload_n 0, 1) rfl) rfl rfl ?_
    refine mx_iload_n (pc := 5) 2 (mx_dd dd_X12_throwsIf 3 (5, .iload_n 2, 1) rfl) rfl rfl ?_
    obtain ⟨g2, P⟩ := P
    refine mx_putI (pc := 6) mx_fl_X12_3 g2 rfl (.inl rfl) rfl rfl (mx_dd dd_X12_throwsIf 4 (6, .putfield 3, 3) rfl) ?_
    have P := P _ rfl
    refine mx_iload_n (pc := 9) 1 (mx_dd dd_X12_throwsIf 5 (9, .iload_n 1, 1) rfl) rfl rfl ?_
    obtain ⟨g3, P⟩ := P
    exact mx_ireturn (pc := 10) (mx_dd dd_X12_throwsIf 6 (10, .ireturn, 1) rfl) rfl (mx_nb g3).1 P
theorem b_X12_in {d : Nat} {h : mxH} {Q : mxRes → mxH → Prop} (x0 : Int32) (x1 : Int32) (x2 : Int32)
    (P : ((x0 < x1 → Q (.inl (some (.int (0 : Int32)))) h) ∧ (¬ x0 < x1 → ((x2 < x0 → Q (.inl (some (.int (0 : Int32)))) h) ∧ (¬ x2 < x0 → Q (.inl (some (.int (1 : Int32)))) h))))) : mx_SM mY_X12_in d [.int x0, .int x1, .int x2] h Q := by
  refine mx_SM_of (by decide) (Nat.le_of_ble_eq_true rfl) ?_
  show mx_SX mY_X12_in d 0 [(0, .int x0), (1, .int x1), (2, .int x2)] [] h Q
  refine mx_iload_n (pc := 0) 0 (mx_dd dd_X12_in 0 (0, .iload_n 0, 1) rfl) rfl rfl ?_
  refine mx_iload_n (pc := 1) 1 (mx_dd dd_X12_in 1 (1, .iload_n 1, 1) rfl) rfl rfl ?_
  refine mx_icmp_lt (pc := 2) 14 (mx_dd dd_X12_in 2 (2, .if_icmp .lt 12, 3) rfl) rfl (fun c2 => ?_) (fun c2 => ?_)
  · have P := P.1 c2
    refine mx_iconst (pc := 14) (v := (0 : Int32)) (mx_dd dd_X12_in 8 (14, .iconst 0, 1) rfl) (by decide) ?_
    exact mx_ireturn (pc := 15) (mx_dd dd_X12_in 9 (15, .ireturn, 1) rfl) rfl rfl P
  · have P := P.2 c2
    refine mx_iload_n (pc := 5) 0 (mx_dd dd_X12_in 3 (5, .iload_n 0, 1) rfl) rfl rfl ?_
    refine mx_iload_n (pc := 6) 2 (mx_dd dd_X12_in 4 (6, .iload_n 2, 1) rfl) rfl rfl ?_
    refine mx_icmp_gt (pc := 7) 14 (mx_dd dd_X12_in 5 (7, .if_icmp .gt 7, 3) rfl) rfl (fun c7 => ?_) (fun c7 => ?_)
    · have P := P.1 c7
      refine mx_iconst (pc := 14) (v := (0 : Int32)) (mx_dd dd_X12_in 8 (14, .iconst 0, 1) rfl) (by decide) ?_
      exact mx_ireturn (pc := 15) (mx_dd dd_X12_in 9 (15, .ireturn, 1) rfl) rfl rfl P
    · have P := P.2 c7
      refine mx_iconst (pc := 10) (v := (1 : Int32)) (mx_dd dd_X12_in 6 (10, .iconst 1, 1) rfl) (by decide) ?_
      refine mx_goto (pc := 11) 15 (mx_dd dd_X12_in 7 (11, .goto 4, 3) rfl) rfl ?_
      exact mx_ireturn (pc := 15) (mx_dd dd_X12_in 9 (15, .ireturn, 1) rfl) rfl rfl P
theorem b_X12_append {d : Nat} {h : mxH} {Q : mxRes → mxH → Prop} (x0 : Nat) (x1 : Int32) (x2 : Int32) (x3 : Int32) (x4 : Int32) (x5 : Int32)
    (P : hpK h x0 = 12 ∧ ∀ h1 : mxH, h1 = hsI h x0 0 (0 : Int32) → ((((hpI h1 x0 3) + (20 : Int32)) ≤ (700 : Int32) → ∃ b1 : Nat, hpR h1 x0 2 = some b1 ∧ hpK h1 b1 = 14 ∧ vp_in (0 : Int32) (hpZ h1 b1) ∧ ∀ h2 : mxH, h2 = hsI h1 b1 (0 : Int32).toNatClampNeg x1 → ∃ b2 : Nat, hpR h2 x0 2 = some b2 ∧ hpK h2 b2 = 14 ∧ vp_in (1 : Int32) (hpZ h2 b2) ∧ ∀ h3 : mxH, h3 = hsI h2 b2 (1 : Int32).toNatClampNeg x2 → ∃ b3 : Nat, hpR h3 x0 2 = some b3 ∧ hpK h3 b3 = 14 ∧ vp_in (2 : Int32) (hpZ h3 b3) ∧ ∀ h4 : mxH, h4 = hsI h3 b3 (2 : Int32).toNatClampNeg x3 → ∃ b4 : Nat, hpR h4 x0 2 = some b4 ∧ hpK h4 b4 = 14 ∧ vp_in (3 : Int32) (hpZ h4 b4) ∧ ∀ h5 : mxH, h5 = hsI h4 b4 (3 : Int32).toNatClampNeg x4 → ∃ b5 : Nat, hpR h5 x0 2 = some b5 ∧ hpK h5 b5 = 14 ∧ vp_in (4 : Int32) (hpZ h5 b5) ∧ ∀ h6 : mxH, h6 = hsI h5 b5 (4 : Int32).toNatClampNeg x5 → mx_SX mY_X12_append d 60 [(0, .ref x0), (6, .int (0 : Int32))] [] h6 Q) ∧ (¬ ((hpI h1 x0 3) + (20 : Int32)) ≤ (700 : Int32) → Q (.inl (some (.int (-1 : Int32)))) h1))) : mx_SM mY_X12_append d [.ref x0, .int x1, .int x2, .int x3, .int x4, .int x5] h Q := by
  refine mx_SM_of (by decide) (Nat.le_of_ble_eq_true rfl) ?_
  show mx_SX mY_X12_append d 0 [(0, .ref x0), (1, .int x1), (2, .int x2), (3, .int x3), (4, .int x4), (5, .int x5)] [] h Q
  refine mx_aload_n (pc := 0) 0 (mx_dd dd_X12_append_0 0 (0, .aload_n 0, 1) rfl) rfl rfl ?_
  refine mx_iconst (pc := 1) (v := (0 : Int32)) (mx_dd dd_X12_append_0 1 (1, .iconst 0, 1) rfl) (by decide) ?_
  obtain ⟨g1, P⟩ := P
  refine mx_putI (pc := 2) mx_fl_X12_3 g1 rfl (.inl rfl) rfl rfl (mx_dd dd_X12_append_0 2 (2, .putfield 3, 3) rfl) ?_
  have P := P _ rfl
  refine mx_aload_n (pc := 5) 0 (mx_dd dd_X12_append_0 3 (5, .aload_n 0, 1) rfl) rfl rfl ?_
  refine mx_getI (pc := 6) mx_fl_X12_7 g1 rfl (mx_dd dd_X12_append_0 4 (6, .getfield 7, 3) rfl) ?_
  refine mx_bipush (pc := 9) (v := (20 : Int32)) (mx_dd dd_X12_append_0 5 (9, .bipush 20, 2) rfl) (by decide) ?_
  refine mx_iadd (pc := 11) (mx_dd dd_X12_append_0 6 (11, .iadd, 1) rfl) ?_
  refine mx_sipush (pc := 12) (v := (700 : Int32)) (mx_dd dd_X12_append_0 7 (12, .sipush 700, 3) rfl) (by decide) ?_
  refine mx_icmp_le (pc := 15) 20 (mx_dd dd_X12_append_0 8 (15, .if_icmp .le 5, 3) rfl) rfl (fun c15 => ?_) (fun c15 => ?_)
  · have P := P.1 c15
    refine mx_aload_n (pc := 20) 0 (mx_dd dd_X12_append_0 11 (20, .aload_n 0, 1) rfl) rfl rfl ?_
    obtain ⟨b1, g2, P⟩ := P
    refine mx_getR (pc := 21) mx_fl_X12_10 g1 rfl g2 (mx_dd dd_X12_append_0 12 (21, .getfield 10, 3) rfl) ?_
    refine mx_iconst (pc := 24) (v := (0 : Int32)) (mx_dd dd_X12_append_0 13 (24, .iconst 0, 1) rfl) (by decide) ?_
    refine mx_iload_n (pc := 25) 1 (mx_dd dd_X12_append_0 14 (25, .iload_n 1, 1) rfl) rfl rfl ?_
    obtain ⟨g3, P⟩ := P
    obtain ⟨g4, P⟩ := P
    refine mx_iast (pc := 26) g3 g4 (mx_dd dd_X12_append_0 15 (26, .iastore, 1) rfl) ?_
    have P := P _ rfl
    refine mx_aload_n (pc := 27) 0 (mx_dd dd_X12_append_0 16 (27, .aload_n 0, 1) rfl) rfl rfl ?_
    obtain ⟨b2, g5, P⟩ := P
    refine mx_getR (pc := 28) mx_fl_X12_10 g1 rfl g5 (mx_dd dd_X12_append_0 17 (28, .getfield 10, 3) rfl) ?_
    refine mx_iconst (pc := 31) (v := (1 : Int32)) (mx_dd dd_X12_append_0 18 (31, .iconst 1, 1) rfl) (by decide) ?_
    refine mx_iload_n (pc := 32) 2 (mx_dd dd_X12_append_0 19 (32, .iload_n 2, 1) rfl) rfl rfl ?_
    obtain ⟨g6, P⟩ := P
    obtain ⟨g7, P⟩ := P
    refine mx_iast (pc := 33) g6 g7 (mx_dd dd_X12_append_0 20 (33, .iastore, 1) rfl) ?_
    have P := P _ rfl
    refine mx_aload_n (pc := 34) 0 (mx_dd dd_X12_append_0 21 (34, .aload_n 0, 1) rfl) rfl rfl ?_
    obtain ⟨b3, g8, P⟩ := P
    refine mx_getR (pc := 35) mx_fl_X12_10 g1 rfl g8 (mx_dd dd_X12_append_0 22 (35, .getfield 10, 3) rfl) ?_
    refine mx_iconst (pc := 38) (v := (2 : Int32)) (mx_dd dd_X12_append_0 23 (38, .iconst 2, 1) rfl) (by decide) ?_
    refine mx_iload_n (pc := 39) 3 (mx_dd dd_X12_append_0 24 (39, .iload_n 3, 1) rfl) rfl rfl ?_
    obtain ⟨g9, P⟩ := P
    obtain ⟨g10, P⟩ := P
    refine mx_iast (pc := 40) g9 g10 (mx_dd dd_X12_append_0 25 (40, .iastore, 1) rfl) ?_
    have P := P _ rfl
    refine mx_aload_n (pc := 41) 0 (mx_dd dd_X12_append_0 26 (41, .aload_n 0, 1) rfl) rfl rfl ?_
    obtain ⟨b4, g11, P⟩ := P
    refine mx_getR (pc := 42) mx_fl_X12_10 g1 rfl g11 (mx_dd dd_X12_append_0 27 (42, .getfield 10, 3) rfl) ?_
    refine mx_iconst (pc := 45) (v := (3 : Int32)) (mx_dd dd_X12_append_0 28 (45, .iconst 3, 1) rfl) (by decide) ?_
    refine mx_iload (pc := 46) 4 (mx_dd dd_X12_append_0 29 (46, .iload 4, 2) rfl) rfl ?_
    obtain ⟨g12, P⟩ := P
    obtain ⟨g13, P⟩ := P
    refine mx_iast (pc := 48) g12 g13 (mx_dd dd_X12_append_0 30 (48, .iastore, 1) rfl) ?_
    have P := P _ rfl
    refine mx_aload_n (pc := 49) 0 (mx_dd dd_X12_append_0 31 (49, .aload_n 0, 1) rfl) rfl rfl ?_
    obtain ⟨b5, g14, P⟩ := P
    refine mx_getR (pc := 50) mx_fl_X12_10 g1 rfl g14 (mx_dd dd_X12_append_0 32 (50, .getfield 10, 3) rfl) ?_
    refine mx_iconst (pc := 53) (v := (4 : Int32)) (mx_dd dd_X12_append_0 33 (53, .iconst 4, 1) rfl) (by decide) ?_
    refine mx_iload (pc := 54) 5 (mx_dd dd_X12_append_0 34 (54, .iload 5, 2) rfl) rfl ?_
    obtain ⟨g15, P⟩ := P
    obtain ⟨g16, P⟩ := P
    refine mx_iast (pc := 56) g15 g16 (mx_dd dd_X12_append_0 35 (56, .iastore, 1) rfl) ?_
    have P := P _ rfl
    refine mx_iconst (pc := 57) (v := (0 : Int32)) (mx_dd dd_X12_append_0 36 (57, .iconst 0, 1) rfl) (by decide) ?_
    refine mx_istore (pc := 58) (mx_dd dd_X12_append_0 37 (58, .istore 6, 2) rfl) (by decide) (lv' := [(6, _), (0, _), (1, _), (2, _), (3, _), (4, _), (5, _)]) rfl ?_
    refine mx_sel [1, 0] rfl ?_
    exact P
  · have P := P.2 c15
    refine mx_iconst (pc := 18) (v := (-1 : Int32)) (mx_dd dd_X12_append_0 9 (18, .iconst (-1), 1) rfl) (by decide) ?_
    exact mx_ireturn (pc := 19) (mx_dd dd_X12_append_0 10 (19, .ireturn, 1) rfl) rfl rfl P
theorem b_X12_append_60 {d : Nat} {h : mxH} {Q : mxRes → mxH → Prop} (x0 : Nat) (x6 : Int32)
    (P : (((20 : Int32) ≤ x6 → hpK h x0 = 12 ∧ ∀ h1 : mxH, h1 = hsI h x0 3 ((hpI h x0 3) + (20 : Int32)) → Q (.inl (some (.int (hpI h1 x0 3)))) h1) ∧ (¬ (20 : Int32) ≤ x6 → hpK h x0 = 12 ∧ ∃ b1 : Nat, hpR h x0 1 = some b1 ∧ ∃ b2 : Nat, hpR h x0 2 = some b2 ∧ hpK h b2 = 14 ∧ vp_in (x6 / (4 : Int32)) (hpZ h b2) ∧ hpK h b1 = 13 ∧ vp_in ((hpI h x0 3) + x6) (hpZ h b1) ∧ ∀ h2 : mxH, h2 = hsI h b1 ((hpI h x0 3) + x6).toNatClampNeg (((hpI h b2 (x6 / (4 : Int32)).toNatClampNeg) >>> (((24 : Int32) - ((8 : Int32) * (x6 - x6 / (4 : Int32) * (4 : Int32)))) &&& 31)).toInt8.toInt32).toInt8.toInt32 → mx_SX mY_X12_append d 60 [(0, .ref x0), (6, .int (x6 + (1 : Int32)))] [] h2 Q))) : mx_SX mY_X12_append d 60 [(0, .ref x0), (6, .int x6)] [] h Q := by
  refine mx_iload (pc := 60) 1 (mx_dd dd_X12_append_0 38 (60, .iload 6, 2) rfl) rfl ?_
  refine mx_bipush (pc := 62) (v := (20 : Int32)) (mx_dd dd_X12_append_0 39 (62, .bipush 20, 2) rfl) (by decide) ?_
  refine mx_icmp_ge (pc := 64) 106 (mx_dd dd_X12_append_1 0 (64, .if_icmp .ge 42, 3) rfl) rfl (fun c64 => ?_) (fun c64 => ?_)
  · have P := P.1 c64
    refine mx_aload_n (pc := 106) 0 (mx_dd dd_X12_append_1 25 (106, .aload_n 0, 1) rfl) rfl rfl ?_
    refine mx_dup (pc := 107) (mx_dd dd_X12_append_1 26 (107, .dup, 1) rfl) rfl ?_
    obtain ⟨g1, P⟩ := P
    refine mx_getI (pc := 108) mx_fl_X12_7 g1 rfl (mx_dd dd_X12_append_1 27 (108, .getfield 7, 3) rfl) ?_
    refine mx_bipush (pc := 111) (v := (20 : Int32)) (mx_dd dd_X12_append_1 28 (111, .bipush 20, 2) rfl) (by decide) ?_
    refine mx_iadd (pc := 113) (mx_dd dd_X12_append_1 29 (113, .iadd, 1) rfl) ?_
    refine mx_putI (pc := 114) mx_fl_X12_7 g1 rfl (.inl rfl) rfl rfl (mx_dd dd_X12_append_1 30 (114, .putfield 7, 3) rfl) ?_
    have P := P _ rfl
    refine mx_aload_n (pc := 117) 0 (mx_dd dd_X12_append_1 31 (117, .aload_n 0, 1) rfl) rfl rfl ?_
    refine mx_getI (pc := 118) mx_fl_X12_7 g1 rfl (mx_dd dd_X12_append_1 32 (118, .getfield 7, 3) rfl) ?_
    exact mx_ireturn (pc := 121) (mx_dd dd_X12_append_1 33 (121, .ireturn, 1) rfl) rfl rfl P
  · have P := P.2 c64
    refine mx_aload_n (pc := 67) 0 (mx_dd dd_X12_append_1 1 (67, .aload_n 0, 1) rfl) rfl rfl ?_
    obtain ⟨g2, P⟩ := P
    obtain ⟨b1, g3, P⟩ := P
    refine mx_getR (pc := 68) mx_fl_X12_14 g2 rfl g3 (mx_dd dd_X12_append_1 2 (68, .getfield 14, 3) rfl) ?_
    refine mx_aload_n (pc := 71) 0 (mx_dd dd_X12_append_1 3 (71, .aload_n 0, 1) rfl) rfl rfl ?_
    refine mx_getI (pc := 72) mx_fl_X12_7 g2 rfl (mx_dd dd_X12_append_1 4 (72, .getfield 7, 3) rfl) ?_
    refine mx_iload (pc := 75) 1 (mx_dd dd_X12_append_1 5 (75, .iload 6, 2) rfl) rfl ?_
    refine mx_iadd (pc := 77) (mx_dd dd_X12_append_1 6 (77, .iadd, 1) rfl) ?_
    refine mx_aload_n (pc := 78) 0 (mx_dd dd_X12_append_1 7 (78, .aload_n 0, 1) rfl) rfl rfl ?_
    obtain ⟨b2, g4, P⟩ := P
    refine mx_getR (pc := 79) mx_fl_X12_10 g2 rfl g4 (mx_dd dd_X12_append_1 8 (79, .getfield 10, 3) rfl) ?_
    refine mx_iload (pc := 82) 1 (mx_dd dd_X12_append_1 9 (82, .iload 6, 2) rfl) rfl ?_
    refine mx_iconst (pc := 84) (v := (4 : Int32)) (mx_dd dd_X12_append_1 10 (84, .iconst 4, 1) rfl) (by decide) ?_
    refine mx_idiv (pc := 85) (mx_dd dd_X12_append_1 11 (85, .idiv, 1) rfl) (by decide) ?_
    obtain ⟨g5, P⟩ := P
    obtain ⟨g6, P⟩ := P
    refine mx_iald (pc := 86) g5 g6 (mx_dd dd_X12_append_1 12 (86, .iaload, 1) rfl) ?_
    refine mx_bipush (pc := 87) (v := (24 : Int32)) (mx_dd dd_X12_append_1 13 (87, .bipush 24, 2) rfl) (by decide) ?_
    refine mx_bipush (pc := 89) (v := (8 : Int32)) (mx_dd dd_X12_append_1 14 (89, .bipush 8, 2) rfl) (by decide) ?_
    refine mx_iload (pc := 91) 1 (mx_dd dd_X12_append_1 15 (91, .iload 6, 2) rfl) rfl ?_
    refine mx_iconst (pc := 93) (v := (4 : Int32)) (mx_dd dd_X12_append_1 16 (93, .iconst 4, 1) rfl) (by decide) ?_
    refine mx_irem (pc := 94) (mx_dd dd_X12_append_1 17 (94, .irem, 1) rfl) (by decide) ?_
    refine mx_imul (pc := 95) (mx_dd dd_X12_append_1 18 (95, .imul, 1) rfl) ?_
    refine mx_isub (pc := 96) (mx_dd dd_X12_append_1 19 (96, .isub, 1) rfl) ?_
    refine mx_ishr (pc := 97) (mx_dd dd_X12_append_1 20 (97, .ishr, 1) rfl) ?_
    refine mx_i2b (pc := 98) (mx_dd dd_X12_append_1 21 (98, .i2b, 1) rfl) ?_
    obtain ⟨g7, P⟩ := P
    obtain ⟨g8, P⟩ := P
    refine mx_bast (pc := 99) g7 g8 (mx_dd dd_X12_append_1 22 (99, .bastore, 1) rfl) ?_
    have P := P _ rfl
    refine mx_iinc (pc := 100) 1 (mx_dd dd_X12_append_1 23 (100, .iinc 6 1, 3) rfl) rfl (mx_kadd (by decide : Int32.ofInt 1 = (1 : Int32))) (by decide) (lv' := [(6, _), (0, _)]) rfl ?_
    refine mx_goto (pc := 103) 60 (mx_dd dd_X12_append_1 24 (103, .goto (-43), 3) rfl) rfl ?_
    refine mx_sel [1, 0] rfl ?_
    exact P
theorem b_X12_truncate {d : Nat} {h : mxH} {Q : mxRes → mxH → Prop} (x0 : Nat) (x1 : Int32)
    (P : hpK h x0 = 12 ∧ ∀ h1 : mxH, h1 = hsI h x0 0 (0 : Int32) → ((x1 < 0 → Q (.inl (some (.int (0 : Int32)))) h1) ∧ (¬ x1 < 0 → ((x1 ≤ (hpI h1 x0 3) → ∀ h2 : mxH, h2 = hsI h1 x0 3 x1 → Q (.inl (some (.int (1 : Int32)))) h2) ∧ (¬ x1 ≤ (hpI h1 x0 3) → Q (.inl (some (.int (0 : Int32)))) h1))))) : mx_SM mY_X12_truncate d [.ref x0, .int x1] h Q := by
  refine mx_SM_of (by decide) (Nat.le_of_ble_eq_true rfl) ?_
  show mx_SX mY_X12_truncate d 0 [(0, .ref x0), (1, .int x1)] [] h Q
  refine mx_aload_n (pc := 0) 0 (mx_dd dd_X12_truncate 0 (0, .aload_n 0, 1) rfl) rfl rfl ?_
  refine mx_iconst (pc := 1) (v := (0 : Int32)) (mx_dd dd_X12_truncate 1 (1, .iconst 0, 1) rfl) (by decide) ?_
  obtain ⟨g1, P⟩ := P
  refine mx_putI (pc := 2) mx_fl_X12_3 g1 rfl (.inl rfl) rfl rfl (mx_dd dd_X12_truncate 2 (2, .putfield 3, 3) rfl) ?_
  have P := P _ rfl
  refine mx_iload_n (pc := 5) 1 (mx_dd dd_X12_truncate 3 (5, .iload_n 1, 1) rfl) rfl rfl ?_
  refine mx_if_lt (pc := 6) 17 (mx_dd dd_X12_truncate 4 (6, .ifCond .lt 11, 3) rfl) rfl (fun c6 => ?_) (fun c6 => ?_)
  · have P := P.1 c6
    refine mx_iconst (pc := 17) (v := (0 : Int32)) (mx_dd dd_X12_truncate 9 (17, .iconst 0, 1) rfl) (by decide) ?_
    exact mx_ireturn (pc := 18) (mx_dd dd_X12_truncate 10 (18, .ireturn, 1) rfl) rfl rfl P
  · have P := P.2 c6
    refine mx_iload_n (pc := 9) 1 (mx_dd dd_X12_truncate 5 (9, .iload_n 1, 1) rfl) rfl rfl ?_
    refine mx_aload_n (pc := 10) 0 (mx_dd dd_X12_truncate 6 (10, .aload_n 0, 1) rfl) rfl rfl ?_
    refine mx_getI (pc := 11) mx_fl_X12_7 g1 rfl (mx_dd dd_X12_truncate 7 (11, .getfield 7, 3) rfl) ?_
    refine mx_icmp_le (pc := 14) 19 (mx_dd dd_X12_truncate 8 (14, .if_icmp .le 5, 3) rfl) rfl (fun c14 => ?_) (fun c14 => ?_)
    · have P := P.1 c14
      refine mx_aload_n (pc := 19) 0 (mx_dd dd_X12_truncate 11 (19, .aload_n 0, 1) rfl) rfl rfl ?_
      refine mx_iload_n (pc := 20) 1 (mx_dd dd_X12_truncate 12 (20, .iload_n 1, 1) rfl) rfl rfl ?_
      refine mx_putI (pc := 21) mx_fl_X12_7 g1 rfl (.inl rfl) rfl rfl (mx_dd dd_X12_truncate 13 (21, .putfield 7, 3) rfl) ?_
      have P := P _ rfl
      refine mx_iconst (pc := 24) (v := (1 : Int32)) (mx_dd dd_X12_truncate 14 (24, .iconst 1, 1) rfl) (by decide) ?_
      exact mx_ireturn (pc := 25) (mx_dd dd_X12_truncate 15 (25, .ireturn, 1) rfl) rfl rfl P
    · have P := P.2 c14
      refine mx_iconst (pc := 17) (v := (0 : Int32)) (mx_dd dd_X12_truncate 9 (17, .iconst 0, 1) rfl) (by decide) ?_
      exact mx_ireturn (pc := 18) (mx_dd dd_X12_truncate 10 (18, .ireturn, 1) rfl) rfl rfl P
theorem b_X12_errorOffset {d : Nat} {h : mxH} {Q : mxRes → mxH → Prop} (x0 : Nat)
    (P : hpK h x0 = 12 ∧ ∀ h1 : mxH, h1 = hsI h x0 0 (0 : Int32) → Q (.inl (some (.int (hpI h1 x0 11)))) h1) : mx_SM mY_X12_errorOffset d [.ref x0] h Q := by
  refine mx_SM_of (by decide) (Nat.le_of_ble_eq_true rfl) ?_
  show mx_SX mY_X12_errorOffset d 0 [(0, .ref x0)] [] h Q
  refine mx_aload_n (pc := 0) 0 (mx_dd dd_X12_errorOffset 0 (0, .aload_n 0, 1) rfl) rfl rfl ?_
  refine mx_iconst (pc := 1) (v := (0 : Int32)) (mx_dd dd_X12_errorOffset 1 (1, .iconst 0, 1) rfl) (by decide) ?_
  obtain ⟨g1, P⟩ := P
  refine mx_putI (pc := 2) mx_fl_X12_3 g1 rfl (.inl rfl) rfl rfl (mx_dd dd_X12_errorOffset 2 (2, .putfield 3, 3) rfl) ?_
  have P := P _ rfl
  refine mx_aload_n (pc := 5) 0 (mx_dd dd_X12_errorOffset 3 (5, .aload_n 0, 1) rfl) rfl rfl ?_
  refine mx_getI (pc := 6) mx_fl_X12_18 g1 rfl (mx_dd dd_X12_errorOffset 4 (6, .getfield 18, 3) rfl) ?_
  exact mx_ireturn (pc := 9) (mx_dd dd_X12_errorOffset 5 (9, .ireturn, 1) rfl) rfl rfl P
theorem b_X12_errorKind {d : Nat} {h : mxH} {Q : mxRes → mxH → Prop} (x0 : Nat)
    (P : hpK h x0 = 12 ∧ ∀ h1 : mxH, h1 = hsI h x0 0 (0 : Int32) → Q (.inl (some (.int (hpI h1 x0 12)))) h1) : mx_SM mY_X12_errorKind d [.ref x0] h Q := by
  refine mx_SM_of (by decide) (Nat.le_of_ble_eq_true rfl) ?_
  show mx_SX mY_X12_errorKind d 0 [(0, .ref x0)] [] h Q
  refine mx_aload_n (pc := 0) 0 (mx_dd dd_X12_errorKind 0 (0, .aload_n 0, 1) rfl) rfl rfl ?_
  refine mx_iconst (pc := 1) (v := (0 : Int32)) (mx_dd dd_X12_errorKind 1 (1, .iconst 0, 1) rfl) (by decide) ?_
  obtain ⟨g1, P⟩ := P
  refine mx_putI (pc := 2) mx_fl_X12_3 g1 rfl (.inl rfl) rfl rfl (mx_dd dd_X12_errorKind 2 (2, .putfield 3, 3) rfl) ?_
  have P := P _ rfl
  refine mx_aload_n (pc := 5) 0 (mx_dd dd_X12_errorKind 3 (5, .aload_n 0, 1) rfl) rfl rfl ?_
  refine mx_getI (pc := 6) mx_fl_X12_21 g1 rfl (mx_dd dd_X12_errorKind 4 (6, .getfield 21, 3) rfl) ?_
  exact mx_ireturn (pc := 9) (mx_dd dd_X12_errorKind 5 (9, .ireturn, 1) rfl) rfl rfl P
theorem b_X12_byteAt {d : Nat} {h : mxH} {Q : mxRes → mxH → Prop} (x0 : Nat) (x1 : Int32)
    (P : hpK h x0 = 12 ∧ (((hpI h x0 4) ≤ x1 → Q (.inl (some (.int (0 : Int32)))) h) ∧ (¬ (hpI h x0 4) ≤ x1 → ∃ b1 : Nat, hpR h x0 1 = some b1 ∧ hpK h b1 = 13 ∧ vp_in x1 (hpZ h b1) ∧ Q (.inl (some (.int (hpI h b1 x1.toNatClampNeg)))) h))) : mx_SM mY_X12_byteAt d [.ref x0, .int x1] h Q := by
  refine mx_SM_of (by decide) (Nat.le_of_ble_eq_true rfl) ?_
  show mx_SX mY_X12_byteAt d 0 [(0, .ref x0), (1, .int x1)] [] h Q
  refine mx_iload_n (pc := 0) 1 (mx_dd dd_X12_byteAt 0 (0, .iload_n 1, 1) rfl) rfl rfl ?_
  refine mx_aload_n (pc := 1) 0 (mx_dd dd_X12_byteAt 1 (1, .aload_n 0, 1) rfl) rfl rfl ?_
  obtain ⟨g1, P⟩ := P
  refine mx_getI (pc := 2) mx_fl_X12_24 g1 rfl (mx_dd dd_X12_byteAt 2 (2, .getfield 24, 3) rfl) ?_
  refine mx_icmp_ge (pc := 5) 17 (mx_dd dd_X12_byteAt 3 (5, .if_icmp .ge 12, 3) rfl) rfl (fun c5 => ?_) (fun c5 => ?_)
  · have P := P.1 c5
    refine mx_iconst (pc := 17) (v := (0 : Int32)) (mx_dd dd_X12_byteAt 9 (17, .iconst 0, 1) rfl) (by decide) ?_
    exact mx_ireturn (pc := 18) (mx_dd dd_X12_byteAt 10 (18, .ireturn, 1) rfl) rfl rfl P
  · have P := P.2 c5
    refine mx_aload_n (pc := 8) 0 (mx_dd dd_X12_byteAt 4 (8, .aload_n 0, 1) rfl) rfl rfl ?_
    obtain ⟨b1, g2, P⟩ := P
    refine mx_getR (pc := 9) mx_fl_X12_14 g1 rfl g2 (mx_dd dd_X12_byteAt 5 (9, .getfield 14, 3) rfl) ?_
    refine mx_iload_n (pc := 12) 1 (mx_dd dd_X12_byteAt 6 (12, .iload_n 1, 1) rfl) rfl rfl ?_
    obtain ⟨g3, P⟩ := P
    obtain ⟨g4, P⟩ := P
    refine mx_bald (pc := 13) g3 g4 (mx_dd dd_X12_byteAt 7 (13, .baload, 1) rfl) ?_
    refine mx_goto (pc := 14) 18 (mx_dd dd_X12_byteAt 8 (14, .goto 4, 3) rfl) rfl ?_
    exact mx_ireturn (pc := 18) (mx_dd dd_X12_byteAt 10 (18, .ireturn, 1) rfl) rfl rfl P
theorem b_X12_isLetter {d : Nat} {h : mxH} {Q : mxRes → mxH → Prop} (x0 : Int32)
    (P : ((x0 < (97 : Int32) → mx_SX mY_X12_isLetter d 12 [(0, .int x0)] [] h Q) ∧ (¬ x0 < (97 : Int32) → ((x0 ≤ (122 : Int32) → mx_SX mY_X12_isLetter d 24 [] [] h Q) ∧ (¬ x0 ≤ (122 : Int32) → mx_SX mY_X12_isLetter d 12 [(0, .int x0)] [] h Q))))) : mx_SM mY_X12_isLetter d [.int x0] h Q := by
  refine mx_SM_of (by decide) (Nat.le_of_ble_eq_true rfl) ?_
  show mx_SX mY_X12_isLetter d 0 [(0, .int x0)] [] h Q
  refine mx_iload_n (pc := 0) 0 (mx_dd dd_X12_isLetter 0 (0, .iload_n 0, 1) rfl) rfl rfl ?_
  refine mx_bipush (pc := 1) (v := (97 : Int32)) (mx_dd dd_X12_isLetter 1 (1, .bipush 97, 2) rfl) (by decide) ?_
  refine mx_icmp_lt (pc := 3) 12 (mx_dd dd_X12_isLetter 2 (3, .if_icmp .lt 9, 3) rfl) rfl (fun c3 => ?_) (fun c3 => ?_)
  · have P := P.1 c3
    exact P
  · have P := P.2 c3
    refine mx_iload_n (pc := 6) 0 (mx_dd dd_X12_isLetter 3 (6, .iload_n 0, 1) rfl) rfl rfl ?_
    refine mx_bipush (pc := 7) (v := (122 : Int32)) (mx_dd dd_X12_isLetter 4 (7, .bipush 122, 2) rfl) (by decide) ?_
    refine mx_icmp_le (pc := 9) 24 (mx_dd dd_X12_isLetter 5 (9, .if_icmp .le 15, 3) rfl) rfl (fun c9 => ?_) (fun c9 => ?_)
    · have P := P.1 c9
      refine mx_sel [] rfl ?_
      exact P
    · have P := P.2 c9
      exact P
theorem b_X12_isLetter_12 {d : Nat} {h : mxH} {Q : mxRes → mxH → Prop} (x0 : Int32)
    (P : ((x0 < (48 : Int32) → Q (.inl (some (.int (0 : Int32)))) h) ∧ (¬ x0 < (48 : Int32) → (((57 : Int32) < x0 → Q (.inl (some (.int (0 : Int32)))) h) ∧ (¬ (57 : Int32) < x0 → mx_SX mY_X12_isLetter d 24 [] [] h Q))))) : mx_SX mY_X12_isLetter d 12 [(0, .int x0)] [] h Q := by
  refine mx_iload_n (pc := 12) 0 (mx_dd dd_X12_isLetter 6 (12, .iload_n 0, 1) rfl) rfl rfl ?_
  refine mx_bipush (pc := 13) (v := (48 : Int32)) (mx_dd dd_X12_isLetter 7 (13, .bipush 48, 2) rfl) (by decide) ?_
  refine mx_icmp_lt (pc := 15) 28 (mx_dd dd_X12_isLetter 8 (15, .if_icmp .lt 13, 3) rfl) rfl (fun c15 => ?_) (fun c15 => ?_)
  · have P := P.1 c15
    refine mx_iconst (pc := 28) (v := (0 : Int32)) (mx_dd dd_X12_isLetter 14 (28, .iconst 0, 1) rfl) (by decide) ?_
    exact mx_ireturn (pc := 29) (mx_dd dd_X12_isLetter 15 (29, .ireturn, 1) rfl) rfl rfl P
  · have P := P.2 c15
    refine mx_iload_n (pc := 18) 0 (mx_dd dd_X12_isLetter 9 (18, .iload_n 0, 1) rfl) rfl rfl ?_
    refine mx_bipush (pc := 19) (v := (57 : Int32)) (mx_dd dd_X12_isLetter 10 (19, .bipush 57, 2) rfl) (by decide) ?_
    refine mx_icmp_gt (pc := 21) 28 (mx_dd dd_X12_isLetter 11 (21, .if_icmp .gt 7, 3) rfl) rfl (fun c21 => ?_) (fun c21 => ?_)
    · have P := P.1 c21
      refine mx_iconst (pc := 28) (v := (0 : Int32)) (mx_dd dd_X12_isLetter 14 (28, .iconst 0, 1) rfl) (by decide) ?_
      exact mx_ireturn (pc := 29) (mx_dd dd_X12_isLetter 15 (29, .ireturn, 1) rfl) rfl rfl P
    · have P := P.2 c21
      refine mx_sel [] rfl ?_
      exact P
theorem b_X12_isLetter_24 {d : Nat} {h : mxH} {Q : mxRes → mxH → Prop} 
    (P : Q (.inl (some (.int (1 : Int32)))) h) : mx_SX mY_X12_isLetter d 24 [] [] h Q := by
  refine mx_iconst (pc := 24) (v := (1 : Int32)) (mx_dd dd_X12_isLetter 12 (24, .iconst 1, 1) rfl) (by decide) ?_
  refine mx_goto (pc := 25) 29 (mx_dd dd_X12_isLetter 13 (25, .goto 4, 3) rfl) rfl ?_
  exact mx_ireturn (pc := 29) (mx_dd dd_X12_isLetter 15 (29, .ireturn, 1) rfl) rfl rfl P
theorem b_X12_isSign {d : Nat} {h : mxH} {Q : mxRes → mxH → Prop} (x0 : Int32)
    (P : ((x0.toInt ∉ ([33, 36, 38, 40, 41, 45, 59, 60, 61, 62, 63, 123, 124, 125] : List Int) → mx_SX mY_X12_isSign d 126 [] [] h Q) ∧ (x0.toInt ∈ ([33, 36, 38, 40, 41, 45, 59, 60, 61, 62, 63, 123, 124, 125] : List Int) → mx_SX mY_X12_isSign d 124 [] [] h Q))) : mx_SM mY_X12_isSign d [.int x0] h Q := by
  refine mx_SM_of (by decide) (Nat.le_of_ble_eq_true rfl) ?_
  show mx_SX mY_X12_isSign d 0 [(0, .int x0)] [] h Q
  refine mx_iload_n (pc := 0) 0 (mx_dd dd_X12_isSign 0 (0, .iload_n 0, 1) rfl) rfl rfl ?_
  refine mx_lsw (pc := 1) 126 (mx_dd dd_X12_isSign 1 (1, .lookupswitch 125 #[(33, 123), (36, 123), (38, 123), (40, 123), (41, 123), (45, 123), (59, 123), (60, 123), (61, 123), (62, 123), (63, 123), (123, 123), (124, 123), (125, 123)], 123) rfl) (by decide) rfl (ks := [33, 36, 38, 40, 41, 45, 59, 60, 61, 62, 63, 123, 124, 125]) rfl (ts := [124, 124, 124, 124, 124, 124, 124, 124, 124, 124, 124, 124, 124, 124]) rfl (fun c1 => ?_) (fun j k t hj ht9 hx => ?_)
  · have P := P.1 c1
    refine mx_sel [] rfl ?_
    exact P
  · have hj9 : j < 14 := (List.getElem?_eq_some_iff.mp hj).1
    have hj8 : j = 0 ∨ j = 1 ∨ j = 2 ∨ j = 3 ∨ j = 4 ∨ j = 5 ∨ j = 6 ∨ j = 7 ∨ j = 8 ∨ j = 9 ∨ j = 10 ∨ j = 11 ∨ j = 12 ∨ j = 13 := by omega
    have e9 : t = 124 := by rcases hj8 with rfl | rfl | rfl | rfl | rfl | rfl | rfl | rfl | rfl | rfl | rfl | rfl | rfl | rfl <;> (cases ht9; rfl)
    have P := P.2 (by rw [hx]; exact List.mem_of_getElem? hj)
    subst e9
    refine mx_sel [] rfl ?_
    exact P
theorem b_X12_isSign_124 {d : Nat} {h : mxH} {Q : mxRes → mxH → Prop} 
    (P : Q (.inl (some (.int (1 : Int32)))) h) : mx_SX mY_X12_isSign d 124 [] [] h Q := by
  refine mx_iconst (pc := 124) (v := (1 : Int32)) (mx_dd dd_X12_isSign 2 (124, .iconst 1, 1) rfl) (by decide) ?_
  exact mx_ireturn (pc := 125) (mx_dd dd_X12_isSign 3 (125, .ireturn, 1) rfl) rfl rfl P
theorem b_X12_isSign_126 {d : Nat} {h : mxH} {Q : mxRes → mxH → Prop} 
    (P : Q (.inl (some (.int (0 : Int32)))) h) : mx_SX mY_X12_isSign d 126 [] [] h Q := by
  refine mx_iconst (pc := 126) (v := (0 : Int32)) (mx_dd dd_X12_isSign 4 (126, .iconst 0, 1) rfl) (by decide) ?_
  exact mx_ireturn (pc := 127) (mx_dd dd_X12_isSign 5 (127, .ireturn, 1) rfl) rfl rfl P
theorem b_X12_looks {d : Nat} {h : mxH} {Q : mxRes → mxH → Prop} (x0 : Nat)
    (P : hpK h x0 = 12 ∧ (((hpI h x0 4) ≤ (hpI h x0 5) → mx_SX mY_X12_looks d 66 [(0, .ref x0)] [] h Q) ∧ (¬ (hpI h x0 4) ≤ (hpI h x0 5) → ∃ b1 : Nat, hpR h x0 1 = some b1 ∧ hpK h b1 = 13 ∧ vp_in (hpI h x0 5) (hpZ h b1) ∧ (((hpI h b1 (hpI h x0 5).toNatClampNeg) = (9 : Int32) → mx_SX mY_X12_looks d 53 [(0, .ref x0)] [] h Q) ∧ (¬ (hpI h b1 (hpI h x0 5).toNatClampNeg) = (9 : Int32) → (((hpI h b1 (hpI h x0 5).toNatClampNeg) = (10 : Int32) → mx_SX mY_X12_looks d 53 [(0, .ref x0)] [] h Q) ∧ (¬ (hpI h b1 (hpI h x0 5).toNatClampNeg) = (10 : Int32) → ((¬ (hpI h b1 (hpI h x0 5).toNatClampNeg) = (32 : Int32) → mx_SX mY_X12_looks d 66 [(0, .ref x0)] [] h Q) ∧ ((hpI h b1 (hpI h x0 5).toNatClampNeg) = (32 : Int32) → mx_SX mY_X12_looks d 53 [(0, .ref x0)] [] h Q))))))))) : mx_SM mY_X12_looks d [.ref x0] h Q := by
  refine mx_SM_of (by decide) (Nat.le_of_ble_eq_true rfl) ?_
  show mx_SX mY_X12_looks d 0 [(0, .ref x0)] [] h Q
  refine mx_aload_n (pc := 0) 0 (mx_dd dd_X12_looks_0 0 (0, .aload_n 0, 1) rfl) rfl rfl ?_
  obtain ⟨g1, P⟩ := P
  refine mx_getI (pc := 1) mx_fl_X12_27 g1 rfl (mx_dd dd_X12_looks_0 1 (1, .getfield 27, 3) rfl) ?_
  refine mx_aload_n (pc := 4) 0 (mx_dd dd_X12_looks_0 2 (4, .aload_n 0, 1) rfl) rfl rfl ?_
  refine mx_getI (pc := 5) mx_fl_X12_24 g1 rfl (mx_dd dd_X12_looks_0 3 (5, .getfield 24, 3) rfl) ?_
  refine mx_icmp_ge (pc := 8) 66 (mx_dd dd_X12_looks_0 4 (8, .if_icmp .ge 58, 3) rfl) rfl (fun c8 => ?_) (fun c8 => ?_)
  · have P := P.1 c8
    exact P
  · have P := P.2 c8
    refine mx_aload_n (pc := 11) 0 (mx_dd dd_X12_looks_0 5 (11, .aload_n 0, 1) rfl) rfl rfl ?_
    obtain ⟨b1, g2, P⟩ := P
    refine mx_getR (pc := 12) mx_fl_X12_14 g1 rfl g2 (mx_dd dd_X12_looks_0 6 (12, .getfield 14, 3) rfl) ?_
    refine mx_aload_n (pc := 15) 0 (mx_dd dd_X12_looks_0 7 (15, .aload_n 0, 1) rfl) rfl rfl ?_
    refine mx_getI (pc := 16) mx_fl_X12_27 g1 rfl (mx_dd dd_X12_looks_0 8 (16, .getfield 27, 3) rfl) ?_
    obtain ⟨g3, P⟩ := P
    obtain ⟨g4, P⟩ := P
    refine mx_bald (pc := 19) g3 g4 (mx_dd dd_X12_looks_0 9 (19, .baload, 1) rfl) ?_
    refine mx_bipush (pc := 20) (v := (9 : Int32)) (mx_dd dd_X12_looks_0 10 (20, .bipush 9, 2) rfl) (by decide) ?_
    refine mx_icmp_eq (pc := 22) 53 (mx_dd dd_X12_looks_0 11 (22, .if_icmp .eq 31, 3) rfl) rfl (fun c22 => ?_) (fun c22 => ?_)
    · have P := P.1 c22
      exact P
    · have P := P.2 c22
      refine mx_aload_n (pc := 25) 0 (mx_dd dd_X12_looks_0 12 (25, .aload_n 0, 1) rfl) rfl rfl ?_
      refine mx_getR (pc := 26) mx_fl_X12_14 g1 rfl g2 (mx_dd dd_X12_looks_0 13 (26, .getfield 14, 3) rfl) ?_
      refine mx_aload_n (pc := 29) 0 (mx_dd dd_X12_looks_0 14 (29, .aload_n 0, 1) rfl) rfl rfl ?_
      refine mx_getI (pc := 30) mx_fl_X12_27 g1 rfl (mx_dd dd_X12_looks_0 15 (30, .getfield 27, 3) rfl) ?_
      refine mx_bald (pc := 33) g3 g4 (mx_dd dd_X12_looks_0 16 (33, .baload, 1) rfl) ?_
      refine mx_bipush (pc := 34) (v := (10 : Int32)) (mx_dd dd_X12_looks_0 17 (34, .bipush 10, 2) rfl) (by decide) ?_
      refine mx_icmp_eq (pc := 36) 53 (mx_dd dd_X12_looks_0 18 (36, .if_icmp .eq 17, 3) rfl) rfl (fun c36 => ?_) (fun c36 => ?_)
      · have P := P.1 c36
        exact P
      · have P := P.2 c36
        refine mx_aload_n (pc := 39) 0 (mx_dd dd_X12_looks_0 19 (39, .aload_n 0, 1) rfl) rfl rfl ?_
        refine mx_getR (pc := 40) mx_fl_X12_14 g1 rfl g2 (mx_dd dd_X12_looks_0 20 (40, .getfield 14, 3) rfl) ?_
        refine mx_aload_n (pc := 43) 0 (mx_dd dd_X12_looks_0 21 (43, .aload_n 0, 1) rfl) rfl rfl ?_
        refine mx_getI (pc := 44) mx_fl_X12_27 g1 rfl (mx_dd dd_X12_looks_0 22 (44, .getfield 27, 3) rfl) ?_
        refine mx_bald (pc := 47) g3 g4 (mx_dd dd_X12_looks_0 23 (47, .baload, 1) rfl) ?_
        refine mx_bipush (pc := 48) (v := (32 : Int32)) (mx_dd dd_X12_looks_0 24 (48, .bipush 32, 2) rfl) (by decide) ?_
        refine mx_icmp_ne (pc := 50) 66 (mx_dd dd_X12_looks_0 25 (50, .if_icmp .ne 16, 3) rfl) rfl (fun c50 => ?_) (fun c50 => ?_)
        · have P := P.1 c50
          exact P
        · have P := P.2 c50
          exact P
theorem b_X12_looks_53 {d : Nat} {h : mxH} {Q : mxRes → mxH → Prop} (x0 : Nat)
    (P : hpK h x0 = 12 ∧ ∀ h1 : mxH, h1 = hsI h x0 5 ((hpI h x0 5) + (1 : Int32)) → mx_SX mY_X12_looks d 0 [(0, .ref x0)] [] h1 Q) : mx_SX mY_X12_looks d 53 [(0, .ref x0)] [] h Q := by
  refine mx_aload_n (pc := 53) 0 (mx_dd dd_X12_looks_0 26 (53, .aload_n 0, 1) rfl) rfl rfl ?_
  refine mx_dup (pc := 54) (mx_dd dd_X12_looks_0 27 (54, .dup, 1) rfl) rfl ?_
  obtain ⟨g1, P⟩ := P
  refine mx_getI (pc := 55) mx_fl_X12_27 g1 rfl (mx_dd dd_X12_looks_0 28 (55, .getfield 27, 3) rfl) ?_
  refine mx_iconst (pc := 58) (v := (1 : Int32)) (mx_dd dd_X12_looks_0 29 (58, .iconst 1, 1) rfl) (by decide) ?_
  refine mx_iadd (pc := 59) (mx_dd dd_X12_looks_0 30 (59, .iadd, 1) rfl) ?_
  refine mx_putI (pc := 60) mx_fl_X12_27 g1 rfl (.inl rfl) rfl rfl (mx_dd dd_X12_looks_0 31 (60, .putfield 27, 3) rfl) ?_
  have P := P _ rfl
  refine mx_goto (pc := 63) 0 (mx_dd dd_X12_looks_0 32 (63, .goto (-63), 3) rfl) rfl ?_
  exact P
theorem b_X12_looks_66 {d : Nat} {h : mxH} {Q : mxRes → mxH → Prop} (x0 : Nat)
    (P : hpK h x0 = 12 ∧ ∀ h1 : mxH, h1 = hsI h x0 6 (hpI h x0 5) → ∀ h2 : mxH, h2 = hsI h1 x0 8 (1 : Int32) → 1 ≤ d ∧ mx_SM mY_X12_byteAt (d - 1) [.ref x0, .int (hpI h2 x0 5)] h2 (mx_KI (fun v1 h3 => hpK h3 x0 = 12 ∧ mx_SM mY_X12_byteAt (d - 1) [.ref x0, .int ((hpI h3 x0 5) + (1 : Int32))] h3 (mx_KI (fun v2 h4 => hpK h4 x0 = 12 ∧ (((hpI h4 x0 5) < (hpI h4 x0 4) → mx_SM mY_X12_isLetter (d - 1) [.int v1] h4 (mx_KI (fun v3 h5 => ((v3 = 0 → hpK h5 x0 = 12 ∧ (((hpI h5 x0 4) ≤ ((hpI h5 x0 5) + (1 : Int32)) → mx_SX mY_X12_looks d 234 [(0, .ref x0), (1, .int v1)] [] h5 Q) ∧ (¬ (hpI h5 x0 4) ≤ ((hpI h5 x0 5) + (1 : Int32)) → (((((256 : Int32) * v1) + v2) = (9766 : Int32) → mx_SX mY_X12_looks d 221 [(0, .ref x0), (2, .int (((256 : Int32) * v1) + v2))] [] h5 Q) ∧ (¬ (((256 : Int32) * v1) + v2) = (9766 : Int32) → (((((256 : Int32) * v1) + v2) = (31868 : Int32) → mx_SX mY_X12_looks d 221 [(0, .ref x0), (2, .int (((256 : Int32) * v1) + v2))] [] h5 Q) ∧ (¬ (((256 : Int32) * v1) + v2) = (31868 : Int32) → (((((256 : Int32) * v1) + v2) = (15934 : Int32) → mx_SX mY_X12_looks d 221 [(0, .ref x0), (2, .int (((256 : Int32) * v1) + v2))] [] h5 Q) ∧ (¬ (((256 : Int32) * v1) + v2) = (15934 : Int32) → (((((256 : Int32) * v1) + v2) = (15398 : Int32) → mx_SX mY_X12_looks d 221 [(0, .ref x0), (2, .int (((256 : Int32) * v1) + v2))] [] h5 Q) ∧ (¬ (((256 : Int32) * v1) + v2) = (15398 : Int32) → ((¬ (((256 : Int32) * v1) + v2) = (15910 : Int32) → mx_SX mY_X12_looks d 234 [(0, .ref x0), (1, .int v1)] [] h5 Q) ∧ ((((256 : Int32) * v1) + v2) = (15910 : Int32) → mx_SX mY_X12_looks d 221 [(0, .ref x0), (2, .int (((256 : Int32) * v1) + v2))] [] h5 Q))))))))))))) ∧ (¬ v3 = 0 → hpK h5 x0 = 12 ∧ ∀ h6 : mxH, h6 = hsI h5 x0 7 (1 : Int32) → mx_SX mY_X12_looks d 141 [(0, .ref x0)] [] h6 Q))) (mx_XX mY_X12_looks Q))) ∧ (¬ (hpI h4 x0 5) < (hpI h4 x0 4) → ∀ h7 : mxH, h7 = hsI h4 x0 7 (0 : Int32) → ∀ h8 : mxH, h8 = hsI h7 x0 8 (0 : Int32) → Q (.inl none) h8))) (mx_XX mY_X12_looks Q))) (mx_XX mY_X12_looks Q))) : mx_SX mY_X12_looks d 66 [(0, .ref x0)] [] h Q := by
  refine mx_aload_n (pc := 66) 0 (mx_dd dd_X12_looks_0 33 (66, .aload_n 0, 1) rfl) rfl rfl ?_
  refine mx_aload_n (pc := 67) 0 (mx_dd dd_X12_looks_0 34 (67, .aload_n 0, 1) rfl) rfl rfl ?_
  obtain ⟨g1, P⟩ := P
  refine mx_getI (pc := 68) mx_fl_X12_27 g1 rfl (mx_dd dd_X12_looks_0 35 (68, .getfield 27, 3) rfl) ?_
  refine mx_putI (pc := 71) mx_fl_X12_30 g1 rfl (.inl rfl) rfl rfl (mx_dd dd_X12_looks_0 36 (71, .putfield 30, 3) rfl) ?_
  have P := P _ rfl
  refine mx_aload_n (pc := 74) 0 (mx_dd dd_X12_looks_0 37 (74, .aload_n 0, 1) rfl) rfl rfl ?_
  refine mx_iconst (pc := 75) (v := (1 : Int32)) (mx_dd dd_X12_looks_0 38 (75, .iconst 1, 1) rfl) (by decide) ?_
  refine mx_putI (pc := 76) mx_fl_X12_33 g1 rfl (.inl rfl) rfl rfl (mx_dd dd_X12_looks_0 39 (76, .putfield 33, 3) rfl) ?_
  have P := P _ rfl
  refine mx_aload_n (pc := 79) 0 (mx_dd dd_X12_looks_1 0 (79, .aload_n 0, 1) rfl) rfl rfl ?_
  refine mx_aload_n (pc := 80) 0 (mx_dd dd_X12_looks_1 1 (80, .aload_n 0, 1) rfl) rfl rfl ?_
  refine mx_getI (pc := 81) mx_fl_X12_27 g1 rfl (mx_dd dd_X12_looks_1 2 (81, .getfield 27, 3) rfl) ?_
  obtain ⟨g2, P⟩ := P
  refine mx_cVI (pc := 84) (Y := mY_X12_byteAt) (As := [.int _]) mx_ml_X12_36 mx_y_X12_byteAt rfl g1 (by decide) rfl (by decide) rfl (mx_dd dd_X12_looks_1 3 (84, .invokevirtual 36, 3) rfl) g2 (by decide) P (fun v1 h3 P => ?_)
  refine mx_istore_n (pc := 87) (mx_dd dd_X12_looks_1 4 (87, .istore_n 1, 1) rfl) rfl (by decide) (lv' := [(1, _), (0, _)]) rfl ?_
  refine mx_sipush (pc := 88) (v := (256 : Int32)) (mx_dd dd_X12_looks_1 5 (88, .sipush 256, 3) rfl) (by decide) ?_
  refine mx_iload_n (pc := 91) 0 (mx_dd dd_X12_looks_1 6 (91, .iload_n 1, 1) rfl) rfl rfl ?_
  refine mx_imul (pc := 92) (mx_dd dd_X12_looks_1 7 (92, .imul, 1) rfl) ?_
  refine mx_aload_n (pc := 93) 1 (mx_dd dd_X12_looks_1 8 (93, .aload_n 0, 1) rfl) rfl rfl ?_
  refine mx_aload_n (pc := 94) 1 (mx_dd dd_X12_looks_1 9 (94, .aload_n 0, 1) rfl) rfl rfl ?_
  obtain ⟨g3, P⟩ := P
  refine mx_getI (pc := 95) mx_fl_X12_27 g3 rfl (mx_dd dd_X12_looks_1 10 (95, .getfield 27, 3) rfl) ?_
  refine mx_iconst (pc := 98) (v := (1 : Int32)) (mx_dd dd_X12_looks_1 11 (98, .iconst 1, 1) rfl) (by decide) ?_
  refine mx_iadd (pc := 99) (mx_dd dd_X12_looks_1 12 (99, .iadd, 1) rfl) ?_
  refine mx_cVI (pc := 100) (Y := mY_X12_byteAt) (As := [.int _]) mx_ml_X12_36 mx_y_X12_byteAt rfl g3 (by decide) rfl (by simp [Value.category]) rfl (mx_dd dd_X12_looks_1 13 (100, .invokevirtual 36, 3) rfl) g2 (by decide) P (fun v2 h4 P => ?_)
  refine mx_iadd (pc := 103) (mx_dd dd_X12_looks_1 14 (103, .iadd, 1) rfl) ?_
  refine mx_istore_n (pc := 104) (mx_dd dd_X12_looks_1 15 (104, .istore_n 2, 1) rfl) rfl (by decide) (lv' := [(2, _), (1, _), (0, _)]) rfl ?_
  refine mx_aload_n (pc := 105) 2 (mx_dd dd_X12_looks_1 16 (105, .aload_n 0, 1) rfl) rfl rfl ?_
  obtain ⟨g4, P⟩ := P
  refine mx_getI (pc := 106) mx_fl_X12_27 g4 rfl (mx_dd dd_X12_looks_1 17 (106, .getfield 27, 3) rfl) ?_
  refine mx_aload_n (pc := 109) 2 (mx_dd dd_X12_looks_1 18 (109, .aload_n 0, 1) rfl) rfl rfl ?_
  refine mx_getI (pc := 110) mx_fl_X12_24 g4 rfl (mx_dd dd_X12_looks_1 19 (110, .getfield 24, 3) rfl) ?_
  refine mx_icmp_lt (pc := 113) 129 (mx_dd dd_X12_looks_1 20 (113, .if_icmp .lt 16, 3) rfl) rfl (fun c113 => ?_) (fun c113 => ?_)
  · have P := P.1 c113
    refine mx_iload_n (pc := 129) 1 (mx_dd dd_X12_looks_1 28 (129, .iload_n 1, 1) rfl) rfl rfl ?_
    refine mx_cSI (pc := 130) (Y := mY_X12_isLetter) (As := [.int _]) mx_ml_X12_43 mx_y_X12_isLetter rfl rfl (by decide) rfl (mx_dd dd_X12_looks_1 29 (130, .invokestatic 43, 3) rfl) g2 (by decide) P (fun v3 h5 P => ?_)
    refine mx_if_eq (pc := 133) 173 (mx_dd dd_X12_looks_1 30 (133, .ifCond .eq 40, 3) rfl) rfl (fun c133 => ?_) (fun c133 => ?_)
    · have P := P.1 c133
      refine mx_aload_n (pc := 173) 2 (mx_dd dd_X12_looks_2 10 (173, .aload_n 0, 1) rfl) rfl rfl ?_
      obtain ⟨g5, P⟩ := P
      refine mx_getI (pc := 174) mx_fl_X12_27 g5 rfl (mx_dd dd_X12_looks_2 11 (174, .getfield 27, 3) rfl) ?_
      refine mx_iconst (pc := 177) (v := (1 : Int32)) (mx_dd dd_X12_looks_2 12 (177, .iconst 1, 1) rfl) (by decide) ?_
      refine mx_iadd (pc := 178) (mx_dd dd_X12_looks_2 13 (178, .iadd, 1) rfl) ?_
      refine mx_aload_n (pc := 179) 2 (mx_dd dd_X12_looks_2 14 (179, .aload_n 0, 1) rfl) rfl rfl ?_
      refine mx_getI (pc := 180) mx_fl_X12_24 g5 rfl (mx_dd dd_X12_looks_2 15 (180, .getfield 24, 3) rfl) ?_
      refine mx_icmp_ge (pc := 183) 234 (mx_dd dd_X12_looks_2 16 (183, .if_icmp .ge 51, 3) rfl) rfl (fun c183 => ?_) (fun c183 => ?_)
      · have P := P.1 c183
        refine mx_sel [2, 1] rfl ?_
        exact P
      · have P := P.2 c183
        refine mx_iload_n (pc := 186) 0 (mx_dd dd_X12_looks_2 17 (186, .iload_n 2, 1) rfl) rfl rfl ?_
        refine mx_sipush (pc := 187) (v := (9766 : Int32)) (mx_dd dd_X12_looks_2 18 (187, .sipush 9766, 3) rfl) (by decide) ?_
        refine mx_icmp_eq (pc := 190) 221 (mx_dd dd_X12_looks_2 19 (190, .if_icmp .eq 31, 3) rfl) rfl (fun c190 => ?_) (fun c190 => ?_)
        · have P := P.1 c190
          refine mx_sel [2, 0] rfl ?_
          exact P
        · have P := P.2 c190
          refine mx_iload_n (pc := 193) 0 (mx_dd dd_X12_looks_2 20 (193, .iload_n 2, 1) rfl) rfl rfl ?_
          refine mx_sipush (pc := 194) (v := (31868 : Int32)) (mx_dd dd_X12_looks_2 21 (194, .sipush 31868, 3) rfl) (by decide) ?_
          refine mx_icmp_eq (pc := 197) 221 (mx_dd dd_X12_looks_2 22 (197, .if_icmp .eq 24, 3) rfl) rfl (fun c197 => ?_) (fun c197 => ?_)
          · have P := P.1 c197
            refine mx_sel [2, 0] rfl ?_
            exact P
          · have P := P.2 c197
            refine mx_iload_n (pc := 200) 0 (mx_dd dd_X12_looks_2 23 (200, .iload_n 2, 1) rfl) rfl rfl ?_
            refine mx_sipush (pc := 201) (v := (15934 : Int32)) (mx_dd dd_X12_looks_2 24 (201, .sipush 15934, 3) rfl) (by decide) ?_
            refine mx_icmp_eq (pc := 204) 221 (mx_dd dd_X12_looks_2 25 (204, .if_icmp .eq 17, 3) rfl) rfl (fun c204 => ?_) (fun c204 => ?_)
            · have P := P.1 c204
              refine mx_sel [2, 0] rfl ?_
              exact P
            · have P := P.2 c204
              refine mx_iload_n (pc := 207) 0 (mx_dd dd_X12_looks_2 26 (207, .iload_n 2, 1) rfl) rfl rfl ?_
              refine mx_sipush (pc := 208) (v := (15398 : Int32)) (mx_dd dd_X12_looks_2 27 (208, .sipush 15398, 3) rfl) (by decide) ?_
              refine mx_icmp_eq (pc := 211) 221 (mx_dd dd_X12_looks_2 28 (211, .if_icmp .eq 10, 3) rfl) rfl (fun c211 => ?_) (fun c211 => ?_)
              · have P := P.1 c211
                refine mx_sel [2, 0] rfl ?_
                exact P
              · have P := P.2 c211
                refine mx_iload_n (pc := 214) 0 (mx_dd dd_X12_looks_2 29 (214, .iload_n 2, 1) rfl) rfl rfl ?_
                refine mx_sipush (pc := 215) (v := (15910 : Int32)) (mx_dd dd_X12_looks_2 30 (215, .sipush 15910, 3) rfl) (by decide) ?_
                refine mx_icmp_ne (pc := 218) 234 (mx_dd dd_X12_looks_2 31 (218, .if_icmp .ne 16, 3) rfl) rfl (fun c218 => ?_) (fun c218 => ?_)
                · have P := P.1 c218
                  refine mx_sel [2, 1] rfl ?_
                  exact P
                · have P := P.2 c218
                  refine mx_sel [2, 0] rfl ?_
                  exact P
    · have P := P.2 c133
      refine mx_aload_n (pc := 136) 2 (mx_dd dd_X12_looks_1 31 (136, .aload_n 0, 1) rfl) rfl rfl ?_
      refine mx_iconst (pc := 137) (v := (1 : Int32)) (mx_dd dd_X12_looks_1 32 (137, .iconst 1, 1) rfl) (by decide) ?_
      obtain ⟨g6, P⟩ := P
      refine mx_putI (pc := 138) mx_fl_X12_40 g6 rfl (.inl rfl) rfl rfl (mx_dd dd_X12_looks_1 33 (138, .putfield 40, 3) rfl) ?_
      have P := P _ rfl
      refine mx_sel [2] rfl ?_
      exact P
  · have P := P.2 c113
    refine mx_aload_n (pc := 116) 2 (mx_dd dd_X12_looks_1 21 (116, .aload_n 0, 1) rfl) rfl rfl ?_
    refine mx_iconst (pc := 117) (v := (0 : Int32)) (mx_dd dd_X12_looks_1 22 (117, .iconst 0, 1) rfl) (by decide) ?_
    refine mx_putI (pc := 118) mx_fl_X12_40 g4 rfl (.inl rfl) rfl rfl (mx_dd dd_X12_looks_1 23 (118, .putfield 40, 3) rfl) ?_
    have P := P _ rfl
    refine mx_aload_n (pc := 121) 2 (mx_dd dd_X12_looks_1 24 (121, .aload_n 0, 1) rfl) rfl rfl ?_
    refine mx_iconst (pc := 122) (v := (0 : Int32)) (mx_dd dd_X12_looks_1 25 (122, .iconst 0, 1) rfl) (by decide) ?_
    refine mx_putI (pc := 123) mx_fl_X12_33 g4 rfl (.inl rfl) rfl rfl (mx_dd dd_X12_looks_1 26 (123, .putfield 33, 3) rfl) ?_
    have P := P _ rfl
    refine mx_goto (pc := 126) 250 (mx_dd dd_X12_looks_1 27 (126, .goto 124, 3) rfl) rfl ?_
    exact mx_return (pc := 250) (mx_dd dd_X12_looks_3 7 (250, .return_, 1) rfl) rfl P
theorem b_X12_looks_141 {d : Nat} {h : mxH} {Q : mxRes → mxH → Prop} (x0 : Nat)
    (P : hpK h x0 = 12 ∧ 1 ≤ d ∧ mx_SM mY_X12_byteAt (d - 1) [.ref x0, .int ((hpI h x0 5) + (hpI h x0 8))] h (mx_KI (fun v1 h1 => mx_SM mY_X12_isLetter (d - 1) [.int v1] h1 (mx_KI (fun v2 h2 => ((v2 = 0 → Q (.inl none) h2) ∧ (¬ v2 = 0 → hpK h2 x0 = 12 ∧ ∀ h3 : mxH, h3 = hsI h2 x0 8 ((hpI h2 x0 8) + (1 : Int32)) → mx_SX mY_X12_looks d 141 [(0, .ref x0)] [] h3 Q))) (mx_XX mY_X12_looks Q))) (mx_XX mY_X12_looks Q))) : mx_SX mY_X12_looks d 141 [(0, .ref x0)] [] h Q := by
  refine mx_aload_n (pc := 141) 0 (mx_dd dd_X12_looks_1 34 (141, .aload_n 0, 1) rfl) rfl rfl ?_
  refine mx_aload_n (pc := 142) 0 (mx_dd dd_X12_looks_1 35 (142, .aload_n 0, 1) rfl) rfl rfl ?_
  obtain ⟨g1, P⟩ := P
  refine mx_getI (pc := 143) mx_fl_X12_27 g1 rfl (mx_dd dd_X12_looks_1 36 (143, .getfield 27, 3) rfl) ?_
  refine mx_aload_n (pc := 146) 0 (mx_dd dd_X12_looks_1 37 (146, .aload_n 0, 1) rfl) rfl rfl ?_
  refine mx_getI (pc := 147) mx_fl_X12_33 g1 rfl (mx_dd dd_X12_looks_1 38 (147, .getfield 33, 3) rfl) ?_
  refine mx_iadd (pc := 150) (mx_dd dd_X12_looks_1 39 (150, .iadd, 1) rfl) ?_
  obtain ⟨g2, P⟩ := P
  refine mx_cVI (pc := 151) (Y := mY_X12_byteAt) (As := [.int _]) mx_ml_X12_36 mx_y_X12_byteAt rfl g1 (by decide) rfl (by decide) rfl (mx_dd dd_X12_looks_2 0 (151, .invokevirtual 36, 3) rfl) g2 (by decide) P (fun v1 h1 P => ?_)
  refine mx_cSI (pc := 154) (Y := mY_X12_isLetter) (As := [.int _]) mx_ml_X12_43 mx_y_X12_isLetter rfl rfl (by decide) rfl (mx_dd dd_X12_looks_2 1 (154, .invokestatic 43, 3) rfl) g2 (by decide) P (fun v2 h2 P => ?_)
  refine mx_if_eq (pc := 157) 250 (mx_dd dd_X12_looks_2 2 (157, .ifCond .eq 93, 3) rfl) rfl (fun c157 => ?_) (fun c157 => ?_)
  · have P := P.1 c157
    exact mx_return (pc := 250) (mx_dd dd_X12_looks_3 7 (250, .return_, 1) rfl) rfl P
  · have P := P.2 c157
    refine mx_aload_n (pc := 160) 0 (mx_dd dd_X12_looks_2 3 (160, .aload_n 0, 1) rfl) rfl rfl ?_
    refine mx_dup (pc := 161) (mx_dd dd_X12_looks_2 4 (161, .dup, 1) rfl) rfl ?_
    obtain ⟨g3, P⟩ := P
    refine mx_getI (pc := 162) mx_fl_X12_33 g3 rfl (mx_dd dd_X12_looks_2 5 (162, .getfield 33, 3) rfl) ?_
    refine mx_iconst (pc := 165) (v := (1 : Int32)) (mx_dd dd_X12_looks_2 6 (165, .iconst 1, 1) rfl) (by decide) ?_
    refine mx_iadd (pc := 166) (mx_dd dd_X12_looks_2 7 (166, .iadd, 1) rfl) ?_
    refine mx_putI (pc := 167) mx_fl_X12_33 g3 rfl (.inl rfl) rfl rfl (mx_dd dd_X12_looks_2 8 (167, .putfield 33, 3) rfl) ?_
    have P := P _ rfl
    refine mx_goto (pc := 170) 141 (mx_dd dd_X12_looks_2 9 (170, .goto (-29), 3) rfl) rfl ?_
    exact P
theorem b_X12_looks_221 {d : Nat} {h : mxH} {Q : mxRes → mxH → Prop} (x0 : Nat) (x2 : Int32)
    (P : hpK h x0 = 12 ∧ ∀ h1 : mxH, h1 = hsI h x0 7 x2 → ∀ h2 : mxH, h2 = hsI h1 x0 8 (2 : Int32) → Q (.inl none) h2) : mx_SX mY_X12_looks d 221 [(0, .ref x0), (2, .int x2)] [] h Q := by
  refine mx_aload_n (pc := 221) 0 (mx_dd dd_X12_looks_2 32 (221, .aload_n 0, 1) rfl) rfl rfl ?_
  refine mx_iload_n (pc := 222) 1 (mx_dd dd_X12_looks_2 33 (222, .iload_n 2, 1) rfl) rfl rfl ?_
  obtain ⟨g1, P⟩ := P
  refine mx_putI (pc := 223) mx_fl_X12_40 g1 rfl (.inl rfl) rfl rfl (mx_dd dd_X12_looks_2 34 (223, .putfield 40, 3) rfl) ?_
  have P := P _ rfl
  refine mx_aload_n (pc := 226) 0 (mx_dd dd_X12_looks_2 35 (226, .aload_n 0, 1) rfl) rfl rfl ?_
  refine mx_iconst (pc := 227) (v := (2 : Int32)) (mx_dd dd_X12_looks_2 36 (227, .iconst 2, 1) rfl) (by decide) ?_
  refine mx_putI (pc := 228) mx_fl_X12_33 g1 rfl (.inl rfl) rfl rfl (mx_dd dd_X12_looks_2 37 (228, .putfield 33, 3) rfl) ?_
  have P := P _ rfl
  refine mx_goto (pc := 231) 250 (mx_dd dd_X12_looks_2 38 (231, .goto 19, 3) rfl) rfl ?_
  exact mx_return (pc := 250) (mx_dd dd_X12_looks_3 7 (250, .return_, 1) rfl) rfl P
theorem b_X12_looks_234 {d : Nat} {h : mxH} {Q : mxRes → mxH → Prop} (x0 : Nat) (x1 : Int32)
    (P : 1 ≤ d ∧ mx_SM mY_X12_isSign (d - 1) [.int x1] h (mx_KI (fun v1 h1 => ((v1 = 0 → hpK h1 x0 = 12 ∧ ∀ h2 : mxH, h2 = hsI h1 x0 7 (2 : Int32) → Q (.inl none) h2) ∧ (¬ v1 = 0 → hpK h1 x0 = 12 ∧ ∀ h3 : mxH, h3 = hsI h1 x0 7 x1 → Q (.inl none) h3))) (mx_XX mY_X12_looks Q))) : mx_SX mY_X12_looks d 234 [(0, .ref x0), (1, .int x1)] [] h Q := by
  refine mx_aload_n (pc := 234) 0 (mx_dd dd_X12_looks_2 39 (234, .aload_n 0, 1) rfl) rfl rfl ?_
  refine mx_iload_n (pc := 235) 1 (mx_dd dd_X12_looks_3 0 (235, .iload_n 1, 1) rfl) rfl rfl ?_
  obtain ⟨g1, P⟩ := P
  refine mx_cSI (pc := 236) (Y := mY_X12_isSign) (As := [.int _]) mx_ml_X12_47 mx_y_X12_isSign rfl rfl (by simp [Value.category]) rfl (mx_dd dd_X12_looks_3 1 (236, .invokestatic 47, 3) rfl) g1 (by decide) P (fun v1 h1 P => ?_)
  refine mx_if_eq (pc := 239) 246 (mx_dd dd_X12_looks_3 2 (239, .ifCond .eq 7, 3) rfl) rfl (fun c239 => ?_) (fun c239 => ?_)
  · have P := P.1 c239
    refine mx_iconst (pc := 246) (v := (2 : Int32)) (mx_dd dd_X12_looks_3 5 (246, .iconst 2, 1) rfl) (by decide) ?_
    obtain ⟨g2, P⟩ := P
    refine mx_putI (pc := 247) mx_fl_X12_40 g2 rfl (.inl rfl) rfl rfl (mx_dd dd_X12_looks_3 6 (247, .putfield 40, 3) rfl) ?_
    have P := P _ rfl
    exact mx_return (pc := 250) (mx_dd dd_X12_looks_3 7 (250, .return_, 1) rfl) rfl P
  · have P := P.2 c239
    refine mx_iload_n (pc := 242) 1 (mx_dd dd_X12_looks_3 3 (242, .iload_n 1, 1) rfl) rfl rfl ?_
    refine mx_goto (pc := 243) 247 (mx_dd dd_X12_looks_3 4 (243, .goto 4, 3) rfl) rfl ?_
    obtain ⟨g3, P⟩ := P
    refine mx_putI (pc := 247) mx_fl_X12_40 g3 rfl (.inl rfl) rfl rfl (mx_dd dd_X12_looks_3 6 (247, .putfield 40, 3) rfl) ?_
    have P := P _ rfl
    exact mx_return (pc := 250) (mx_dd dd_X12_looks_3 7 (250, .return_, 1) rfl) rfl P
theorem b_X12_hasFailed {d : Nat} {h : mxH} {Q : mxRes → mxH → Prop} (x0 : Nat)
    (P : hpK h x0 = 12 ∧ (((hpI h x0 9) = (-1 : Int32) → Q (.inl (some (.int (0 : Int32)))) h) ∧ (¬ (hpI h x0 9) = (-1 : Int32) → Q (.inl (some (.int (1 : Int32)))) h))) : mx_SM mY_X12_hasFailed d [.ref x0] h Q := by
  refine mx_SM_of (by decide) (Nat.le_of_ble_eq_true rfl) ?_
  show mx_SX mY_X12_hasFailed d 0 [(0, .ref x0)] [] h Q
  refine mx_aload_n (pc := 0) 0 (mx_dd dd_X12_hasFailed 0 (0, .aload_n 0, 1) rfl) rfl rfl ?_
  obtain ⟨g1, P⟩ := P
  refine mx_getI (pc := 1) mx_fl_X12_50 g1 rfl (mx_dd dd_X12_hasFailed 1 (1, .getfield 50, 3) rfl) ?_
  refine mx_iconst (pc := 4) (v := (-1 : Int32)) (mx_dd dd_X12_hasFailed 2 (4, .iconst (-1), 1) rfl) (by decide) ?_
  refine mx_icmp_eq (pc := 5) 12 (mx_dd dd_X12_hasFailed 3 (5, .if_icmp .eq 7, 3) rfl) rfl (fun c5 => ?_) (fun c5 => ?_)
  · have P := P.1 c5
    refine mx_iconst (pc := 12) (v := (0 : Int32)) (mx_dd dd_X12_hasFailed 6 (12, .iconst 0, 1) rfl) (by decide) ?_
    exact mx_ireturn (pc := 13) (mx_dd dd_X12_hasFailed 7 (13, .ireturn, 1) rfl) rfl rfl P
  · have P := P.2 c5
    refine mx_iconst (pc := 8) (v := (1 : Int32)) (mx_dd dd_X12_hasFailed 4 (8, .iconst 1, 1) rfl) (by decide) ?_
    refine mx_goto (pc := 9) 13 (mx_dd dd_X12_hasFailed 5 (9, .goto 4, 3) rfl) rfl ?_
    exact mx_ireturn (pc := 13) (mx_dd dd_X12_hasFailed 7 (13, .ireturn, 1) rfl) rfl rfl P
theorem b_X12_fails {d : Nat} {h : mxH} {Q : mxRes → mxH → Prop} (x0 : Nat) (x1 : Int32)
    (P : 1 ≤ d ∧ hpK h x0 = 12 ∧ mx_SM mY_X12_hasFailed (d - 1) [.ref x0] h (mx_KI (fun v1 h1 => ((v1 = 0 → hpK h1 x0 = 12 ∧ ∀ h2 : mxH, h2 = hsI h1 x0 9 (hpI h1 x0 6) → ((¬ (hpI h2 x0 7) = (1 : Int32) → ∀ h3 : mxH, h3 = hsI h2 x0 10 x1 → Q (.inl none) h3) ∧ ((hpI h2 x0 7) = (1 : Int32) → (((hpI h2 x0 8) ≤ (12 : Int32) → ∀ h4 : mxH, h4 = hsI h2 x0 10 x1 → Q (.inl none) h4) ∧ (¬ (hpI h2 x0 8) ≤ (12 : Int32) → ∀ h5 : mxH, h5 = hsI h2 x0 10 (3 : Int32) → Q (.inl none) h5))))) ∧ (¬ v1 = 0 → Q (.inl none) h1))) (mx_XX mY_X12_fails Q))) : mx_SM mY_X12_fails d [.ref x0, .int x1] h Q := by
  refine mx_SM_of (by decide) (Nat.le_of_ble_eq_true rfl) ?_
  show mx_SX mY_X12_fails d 0 [(0, .ref x0), (1, .int x1)] [] h Q
  refine mx_aload_n (pc := 0) 0 (mx_dd dd_X12_fails 0 (0, .aload_n 0, 1) rfl) rfl rfl ?_
  obtain ⟨g1, P⟩ := P
  obtain ⟨g2, P⟩ := P
  refine mx_cVI (pc := 1) (Y := mY_X12_hasFailed) (As := []) mx_ml_X12_53 mx_y_X12_hasFailed rfl g2 (by decide) rfl (by decide) rfl (mx_dd dd_X12_fails 1 (1, .invokevirtual 53, 3) rfl) g1 (by decide) P (fun v1 h1 P => ?_)
  refine mx_if_eq (pc := 4) 8 (mx_dd dd_X12_fails 2 (4, .ifCond .eq 4, 3) rfl) rfl (fun c4 => ?_) (fun c4 => ?_)
  · have P := P.1 c4
    refine mx_aload_n (pc := 8) 0 (mx_dd dd_X12_fails 4 (8, .aload_n 0, 1) rfl) rfl rfl ?_
    refine mx_aload_n (pc := 9) 0 (mx_dd dd_X12_fails 5 (9, .aload_n 0, 1) rfl) rfl rfl ?_
    obtain ⟨g3, P⟩ := P
    refine mx_getI (pc := 10) mx_fl_X12_30 g3 rfl (mx_dd dd_X12_fails 6 (10, .getfield 30, 3) rfl) ?_
    refine mx_putI (pc := 13) mx_fl_X12_50 g3 rfl (.inl rfl) rfl rfl (mx_dd dd_X12_fails 7 (13, .putfield 50, 3) rfl) ?_
    have P := P _ rfl
    refine mx_aload_n (pc := 16) 0 (mx_dd dd_X12_fails 8 (16, .aload_n 0, 1) rfl) rfl rfl ?_
    refine mx_aload_n (pc := 17) 0 (mx_dd dd_X12_fails 9 (17, .aload_n 0, 1) rfl) rfl rfl ?_
    refine mx_getI (pc := 18) mx_fl_X12_40 g3 rfl (mx_dd dd_X12_fails 10 (18, .getfield 40, 3) rfl) ?_
    refine mx_iconst (pc := 21) (v := (1 : Int32)) (mx_dd dd_X12_fails 11 (21, .iconst 1, 1) rfl) (by decide) ?_
    refine mx_icmp_ne (pc := 22) 38 (mx_dd dd_X12_fails 12 (22, .if_icmp .ne 16, 3) rfl) rfl (fun c22 => ?_) (fun c22 => ?_)
    · have P := P.1 c22
      refine mx_iload_n (pc := 38) 1 (mx_dd dd_X12_fails 19 (38, .iload_n 1, 1) rfl) rfl rfl ?_
      refine mx_putI (pc := 39) mx_fl_X12_57 g3 rfl (.inl rfl) rfl rfl (mx_dd dd_X12_fails 20 (39, .putfield 57, 3) rfl) ?_
      have P := P _ rfl
      exact mx_return (pc := 42) (mx_dd dd_X12_fails 21 (42, .return_, 1) rfl) rfl P
    · have P := P.2 c22
      refine mx_aload_n (pc := 25) 0 (mx_dd dd_X12_fails 13 (25, .aload_n 0, 1) rfl) rfl rfl ?_
      refine mx_getI (pc := 26) mx_fl_X12_33 g3 rfl (mx_dd dd_X12_fails 14 (26, .getfield 33, 3) rfl) ?_
      refine mx_bipush (pc := 29) (v := (12 : Int32)) (mx_dd dd_X12_fails 15 (29, .bipush 12, 2) rfl) (by decide) ?_
      refine mx_icmp_le (pc := 31) 38 (mx_dd dd_X12_fails 16 (31, .if_icmp .le 7, 3) rfl) rfl (fun c31 => ?_) (fun c31 => ?_)
      · have P := P.1 c31
        refine mx_iload_n (pc := 38) 1 (mx_dd dd_X12_fails 19 (38, .iload_n 1, 1) rfl) rfl rfl ?_
        refine mx_putI (pc := 39) mx_fl_X12_57 g3 rfl (.inl rfl) rfl rfl (mx_dd dd_X12_fails 20 (39, .putfield 57, 3) rfl) ?_
        have P := P _ rfl
        exact mx_return (pc := 42) (mx_dd dd_X12_fails 21 (42, .return_, 1) rfl) rfl P
      · have P := P.2 c31
        refine mx_iconst (pc := 34) (v := (3 : Int32)) (mx_dd dd_X12_fails 17 (34, .iconst 3, 1) rfl) (by decide) ?_
        refine mx_goto (pc := 35) 39 (mx_dd dd_X12_fails 18 (35, .goto 4, 3) rfl) rfl ?_
        refine mx_putI (pc := 39) mx_fl_X12_57 g3 rfl (.inl rfl) rfl rfl (mx_dd dd_X12_fails 20 (39, .putfield 57, 3) rfl) ?_
        have P := P _ rfl
        exact mx_return (pc := 42) (mx_dd dd_X12_fails 21 (42, .return_, 1) rfl) rfl P
  · have P := P.2 c4
    exact mx_return (pc := 7) (mx_dd dd_X12_fails 3 (7, .return_, 1) rfl) rfl P
theorem b_X12_passes {d : Nat} {h : mxH} {Q : mxRes → mxH → Prop} (x0 : Nat)
    (P : 1 ≤ d ∧ hpK h x0 = 12 ∧ mx_SM mY_X12_hasFailed (d - 1) [.ref x0] h (mx_KI (fun v1 h1 => ((v1 = 0 → hpK h1 x0 = 12 ∧ ∀ h2 : mxH, h2 = hsI h1 x0 5 ((hpI h1 x0 5) + (hpI h1 x0 8)) → mx_SM mY_X12_looks (d - 1) [.ref x0] h2 (mx_KV (fun h3 => Q (.inl none) h3) (mx_XX mY_X12_passes Q))) ∧ (¬ v1 = 0 → Q (.inl none) h1))) (mx_XX mY_X12_passes Q))) : mx_SM mY_X12_passes d [.ref x0] h Q := by
  refine mx_SM_of (by decide) (Nat.le_of_ble_eq_true rfl) ?_
  show mx_SX mY_X12_passes d 0 [(0, .ref x0)] [] h Q
  refine mx_aload_n (pc := 0) 0 (mx_dd dd_X12_passes 0 (0, .aload_n 0, 1) rfl) rfl rfl ?_
  obtain ⟨g1, P⟩ := P
  obtain ⟨g2, P⟩ := P
  refine mx_cVI (pc := 1) (Y := mY_X12_hasFailed) (As := []) mx_ml_X12_53 mx_y_X12_hasFailed rfl g2 (by decide) rfl (by decide) rfl (mx_dd dd_X12_passes 1 (1, .invokevirtual 53, 3) rfl) g1 (by decide) P (fun v1 h1 P => ?_)
  refine mx_if_eq (pc := 4) 8 (mx_dd dd_X12_passes 2 (4, .ifCond .eq 4, 3) rfl) rfl (fun c4 => ?_) (fun c4 => ?_)
  · have P := P.1 c4
    refine mx_aload_n (pc := 8) 0 (mx_dd dd_X12_passes 4 (8, .aload_n 0, 1) rfl) rfl rfl ?_
    refine mx_dup (pc := 9) (mx_dd dd_X12_passes 5 (9, .dup, 1) rfl) rfl ?_
    obtain ⟨g3, P⟩ := P
    refine mx_getI (pc := 10) mx_fl_X12_27 g3 rfl (mx_dd dd_X12_passes 6 (10, .getfield 27, 3) rfl) ?_
    refine mx_aload_n (pc := 13) 0 (mx_dd dd_X12_passes 7 (13, .aload_n 0, 1) rfl) rfl rfl ?_
    refine mx_getI (pc := 14) mx_fl_X12_33 g3 rfl (mx_dd dd_X12_passes 8 (14, .getfield 33, 3) rfl) ?_
    refine mx_iadd (pc := 17) (mx_dd dd_X12_passes 9 (17, .iadd, 1) rfl) ?_
    refine mx_putI (pc := 18) mx_fl_X12_27 g3 rfl (.inl rfl) rfl rfl (mx_dd dd_X12_passes 10 (18, .putfield 27, 3) rfl) ?_
    have P := P _ rfl
    refine mx_aload_n (pc := 21) 0 (mx_dd dd_X12_passes 11 (21, .aload_n 0, 1) rfl) rfl rfl ?_
    refine mx_cVV (pc := 22) (Y := mY_X12_looks) (As := []) mx_ml_X12_60 mx_y_X12_looks rfl g3 (by decide) rfl (by decide) rfl (mx_dd dd_X12_passes 12 (22, .invokevirtual 60, 3) rfl) g1 (by decide) P (fun h3 P => ?_)
    exact mx_return (pc := 25) (mx_dd dd_X12_passes 13 (25, .return_, 1) rfl) rfl P
  · have P := P.2 c4
    exact mx_return (pc := 7) (mx_dd dd_X12_passes 3 (7, .return_, 1) rfl) rfl P
theorem b_X12_isWord {d : Nat} {h : mxH} {Q : mxRes → mxH → Prop} (x0 : Nat) (x1 : Nat)
    (P : 1 ≤ d ∧ hpK h x0 = 12 ∧ mx_SM mY_X12_hasFailed (d - 1) [.ref x0] h (mx_KI (fun v1 h1 => ((¬ v1 = 0 → mx_SX mY_X12_isWord d 30 [(0, .ref x0), (1, .ref x1)] [] h1 Q) ∧ (v1 = 0 → hpK h1 x0 = 12 ∧ ((¬ (hpI h1 x0 7) = (1 : Int32) → mx_SX mY_X12_isWord d 30 [(0, .ref x0), (1, .ref x1)] [] h1 Q) ∧ ((hpI h1 x0 7) = (1 : Int32) → ∃ i1 : Nat, i1 < 36 ∧ x1 = 3 + i1 ∧ mx_SM mY_J0_length_8abf5 (d - 1) [.ref (3 + i1)] h1 (mx_KI (fun v2 h2 => ((¬ (hpI h1 x0 8) = v2 → mx_SX mY_X12_isWord d 30 [(0, .ref x0), (1, .ref x1)] [] h2 Q) ∧ ((hpI h1 x0 8) = v2 → mx_SX mY_X12_isWord d 34 [(0, .ref x0), (1, .ref x1), (2, .int (1 : Int32)), (3, .int (0 : Int32))] [] h2 Q))) fun _ _ => False)))))) (mx_XX mY_X12_isWord Q))) : mx_SM mY_X12_isWord d [.ref x0, .ref x1] h Q := by
  refine mx_SM_of (by decide) (Nat.le_of_ble_eq_true rfl) ?_
  show mx_SX mY_X12_isWord d 0 [(0, .ref x0), (1, .ref x1)] [] h Q
  refine mx_aload_n (pc := 0) 0 (mx_dd dd_X12_isWord 0 (0, .aload_n 0, 1) rfl) rfl rfl ?_
  obtain ⟨g1, P⟩ := P
  obtain ⟨g2, P⟩ := P
  refine mx_cVI (pc := 1) (Y := mY_X12_hasFailed) (As := []) mx_ml_X12_53 mx_y_X12_hasFailed rfl g2 (by decide) rfl (by decide) rfl (mx_dd dd_X12_isWord 1 (1, .invokevirtual 53, 3) rfl) g1 (by decide) P (fun v1 h1 P => ?_)
  refine mx_if_ne (pc := 4) 30 (mx_dd dd_X12_isWord 2 (4, .ifCond .ne 26, 3) rfl) rfl (fun c4 => ?_) (fun c4 => ?_)
  · have P := P.1 c4
    exact P
  · have P := P.2 c4
    refine mx_aload_n (pc := 7) 0 (mx_dd dd_X12_isWord 3 (7, .aload_n 0, 1) rfl) rfl rfl ?_
    obtain ⟨g3, P⟩ := P
    refine mx_getI (pc := 8) mx_fl_X12_40 g3 rfl (mx_dd dd_X12_isWord 4 (8, .getfield 40, 3) rfl) ?_
    refine mx_iconst (pc := 11) (v := (1 : Int32)) (mx_dd dd_X12_isWord 5 (11, .iconst 1, 1) rfl) (by decide) ?_
    refine mx_icmp_ne (pc := 12) 30 (mx_dd dd_X12_isWord 6 (12, .if_icmp .ne 18, 3) rfl) rfl (fun c12 => ?_) (fun c12 => ?_)
    · have P := P.1 c12
      exact P
    · have P := P.2 c12
      refine mx_aload_n (pc := 15) 0 (mx_dd dd_X12_isWord 7 (15, .aload_n 0, 1) rfl) rfl rfl ?_
      refine mx_getI (pc := 16) mx_fl_X12_33 g3 rfl (mx_dd dd_X12_isWord 8 (16, .getfield 33, 3) rfl) ?_
      refine mx_aload_n (pc := 19) 1 (mx_dd dd_X12_isWord 9 (19, .aload_n 1, 1) rfl) rfl rfl ?_
      obtain ⟨i1, g4, g5, P⟩ := P
      subst g5
      refine mx_cTI (pc := 20) (Y := mY_J0_length_8abf5) (As := []) g4 mx_ml_X12_64 mx_y_J0_length_8abf5 rfl rfl (by simp [Value.category]) rfl (mx_dd dd_X12_isWord 10 (20, .invokevirtual 64, 3) rfl) g1 (by decide) P (fun v2 h2 P => ?_)
      refine mx_icmp_ne (pc := 23) 30 (mx_dd dd_X12_isWord 11 (23, .if_icmp .ne 7, 3) rfl) rfl (fun c23 => ?_) (fun c23 => ?_)
      · have P := P.1 c23
        exact P
      · have P := P.2 c23
        refine mx_iconst (pc := 26) (v := (1 : Int32)) (mx_dd dd_X12_isWord 12 (26, .iconst 1, 1) rfl) (by decide) ?_
        refine mx_goto (pc := 27) 31 (mx_dd dd_X12_isWord 13 (27, .goto 4, 3) rfl) rfl ?_
        refine mx_istore_n (pc := 31) (mx_dd dd_X12_isWord 15 (31, .istore_n 2, 1) rfl) rfl (by decide) (lv' := [(2, _), (0, _), (1, _)]) rfl ?_
        refine mx_iconst (pc := 32) (v := (0 : Int32)) (mx_dd dd_X12_isWord 16 (32, .iconst 0, 1) rfl) (by decide) ?_
        refine mx_istore_n (pc := 33) (mx_dd dd_X12_isWord 17 (33, .istore_n 3, 1) rfl) rfl (by decide) (lv' := [(3, _), (2, _), (0, _), (1, _)]) rfl ?_
        refine mx_sel [2, 3, 1, 0] rfl ?_
        exact P
theorem b_X12_isWord_30 {d : Nat} {h : mxH} {Q : mxRes → mxH → Prop} (x0 : Nat) (x1 : Nat)
    (P : mx_SX mY_X12_isWord d 34 [(0, .ref x0), (1, .ref x1), (2, .int (0 : Int32)), (3, .int (0 : Int32))] [] h Q) : mx_SX mY_X12_isWord d 30 [(0, .ref x0), (1, .ref x1)] [] h Q := by
  refine mx_iconst (pc := 30) (v := (0 : Int32)) (mx_dd dd_X12_isWord 14 (30, .iconst 0, 1) rfl) (by decide) ?_
  refine mx_istore_n (pc := 31) (mx_dd dd_X12_isWord 15 (31, .istore_n 2, 1) rfl) rfl (by decide) (lv' := [(2, _), (0, _), (1, _)]) rfl ?_
  refine mx_iconst (pc := 32) (v := (0 : Int32)) (mx_dd dd_X12_isWord 16 (32, .iconst 0, 1) rfl) (by decide) ?_
  refine mx_istore_n (pc := 33) (mx_dd dd_X12_isWord 17 (33, .istore_n 3, 1) rfl) rfl (by decide) (lv' := [(3, _), (2, _), (0, _), (1, _)]) rfl ?_
  refine mx_sel [2, 3, 1, 0] rfl ?_
  exact P
theorem b_X12_isWord_34 {d : Nat} {h : mxH} {Q : mxRes → mxH → Prop} (x0 : Nat) (x1 : Nat) (x2 : Int32) (x3 : Int32)
    (P : ((x2 = 0 → (x2 = 0 ∨ x2 = 1) ∧ Q (.inl (some (.int x2))) h) ∧ (¬ x2 = 0 → ∃ i1 : Nat, i1 < 36 ∧ x1 = 3 + i1 ∧ 1 ≤ d ∧ mx_SM mY_J0_length_8abf5 (d - 1) [.ref (3 + i1)] h (mx_KI (fun v1 h1 => ((v1 ≤ x3 → (x2 = 0 ∨ x2 = 1) ∧ Q (.inl (some (.int x2))) h1) ∧ (¬ v1 ≤ x3 → hpK h1 x0 = 12 ∧ ∃ b1 : Nat, hpR h1 x0 1 = some b1 ∧ hpK h1 b1 = 13 ∧ vp_in ((hpI h1 x0 5) + x3) (hpZ h1 b1) ∧ mx_SM mY_J0_charAt_5068e (d - 1) [.ref (3 + i1), .int x3] h1 (mx_KI (fun v2 h2 => ((¬ (hpI h1 b1 ((hpI h1 x0 5) + x3).toNatClampNeg) = v2 → mx_SX mY_X12_isWord d 34 [(0, .ref x0), (1, .ref x1), (2, .int (0 : Int32)), (3, .int (x3 + (1 : Int32)))] [] h2 Q) ∧ ((hpI h1 b1 ((hpI h1 x0 5) + x3).toNatClampNeg) = v2 → mx_SX mY_X12_isWord d 34 [(0, .ref x0), (1, .ref x1), (2, .int (1 : Int32)), (3, .int (x3 + (1 : Int32)))] [] h2 Q))) fun _ _ => False)))) fun _ _ => False)))) : mx_SX mY_X12_isWord d 34 [(0, .ref x0), (1, .ref x1), (2, .int x2), (3, .int x3)] [] h Q := by
  refine mx_iload_n (pc := 34) 2 (mx_dd dd_X12_isWord 18 (34, .iload_n 2, 1) rfl) rfl rfl ?_
  refine mx_if_eq (pc := 35) 77 (mx_dd dd_X12_isWord 19 (35, .ifCond .eq 42, 3) rfl) rfl (fun c35 => ?_) (fun c35 => ?_)
  · have P := P.1 c35
    refine mx_iload_n (pc := 77) 2 (mx_dd dd_X12_isWord 41 (77, .iload_n 2, 1) rfl) rfl rfl ?_
    obtain ⟨g1, P⟩ := P
    exact mx_ireturn (pc := 78) (mx_dd dd_X12_isWord 42 (78, .ireturn, 1) rfl) rfl (mx_nb g1).1 P
  · have P := P.2 c35
    refine mx_iload_n (pc := 38) 3 (mx_dd dd_X12_isWord 20 (38, .iload_n 3, 1) rfl) rfl rfl ?_
    refine mx_aload_n (pc := 39) 1 (mx_dd dd_X12_isWord 21 (39, .aload_n 1, 1) rfl) rfl rfl ?_
    obtain ⟨i1, g2, g3, P⟩ := P
    subst g3
    obtain ⟨g4, P⟩ := P
    refine mx_cTI (pc := 40) (Y := mY_J0_length_8abf5) (As := []) g2 mx_ml_X12_64 mx_y_J0_length_8abf5 rfl rfl (by simp [Value.category]) rfl (mx_dd dd_X12_isWord 22 (40, .invokevirtual 64, 3) rfl) g4 (by decide) P (fun v1 h1 P => ?_)
    refine mx_icmp_ge (pc := 43) 77 (mx_dd dd_X12_isWord 23 (43, .if_icmp .ge 34, 3) rfl) rfl (fun c43 => ?_) (fun c43 => ?_)
    · have P := P.1 c43
      refine mx_iload_n (pc := 77) 2 (mx_dd dd_X12_isWord 41 (77, .iload_n 2, 1) rfl) rfl rfl ?_
      obtain ⟨g5, P⟩ := P
      exact mx_ireturn (pc := 78) (mx_dd dd_X12_isWord 42 (78, .ireturn, 1) rfl) rfl (mx_nb g5).1 P
    · have P := P.2 c43
      refine mx_aload_n (pc := 46) 0 (mx_dd dd_X12_isWord 24 (46, .aload_n 0, 1) rfl) rfl rfl ?_
      obtain ⟨g6, P⟩ := P
      obtain ⟨b1, g7, P⟩ := P
      refine mx_getR (pc := 47) mx_fl_X12_14 g6 rfl g7 (mx_dd dd_X12_isWord 25 (47, .getfield 14, 3) rfl) ?_
      refine mx_aload_n (pc := 50) 0 (mx_dd dd_X12_isWord 26 (50, .aload_n 0, 1) rfl) rfl rfl ?_
      refine mx_getI (pc := 51) mx_fl_X12_27 g6 rfl (mx_dd dd_X12_isWord 27 (51, .getfield 27, 3) rfl) ?_
      refine mx_iload_n (pc := 54) 3 (mx_dd dd_X12_isWord 28 (54, .iload_n 3, 1) rfl) rfl rfl ?_
      refine mx_iadd (pc := 55) (mx_dd dd_X12_isWord 29 (55, .iadd, 1) rfl) ?_
      obtain ⟨g8, P⟩ := P
      obtain ⟨g9, P⟩ := P
      refine mx_bald (pc := 56) g8 g9 (mx_dd dd_X12_isWord 30 (56, .baload, 1) rfl) ?_
      refine mx_aload_n (pc := 57) 1 (mx_dd dd_X12_isWord 31 (57, .aload_n 1, 1) rfl) rfl rfl ?_
      refine mx_iload_n (pc := 58) 3 (mx_dd dd_X12_isWord 32 (58, .iload_n 3, 1) rfl) rfl rfl ?_
      refine mx_cTI (pc := 59) (Y := mY_J0_charAt_5068e) (As := [.int _]) g2 mx_ml_X12_70 mx_y_J0_charAt_5068e rfl rfl (by simp [Value.category]) rfl (mx_dd dd_X12_isWord 33 (59, .invokevirtual 70, 3) rfl) g4 (by decide) P (fun v2 h2 P => ?_)
      refine mx_icmp_ne (pc := 62) 69 (mx_dd dd_X12_isWord 34 (62, .if_icmp .ne 7, 3) rfl) rfl (fun c62 => ?_) (fun c62 => ?_)
      · have P := P.1 c62
        refine mx_iconst (pc := 69) (v := (0 : Int32)) (mx_dd dd_X12_isWord 37 (69, .iconst 0, 1) rfl) (by decide) ?_
        refine mx_istore_n (pc := 70) (mx_dd dd_X12_isWord 38 (70, .istore_n 2, 1) rfl) rfl (by decide) (lv' := [(2, _), (0, _), (1, _), (3, _)]) rfl ?_
        refine mx_iinc (pc := 71) 3 (mx_dd dd_X12_isWord 39 (71, .iinc 3 1, 3) rfl) rfl (mx_kadd (by decide : Int32.ofInt 1 = (1 : Int32))) (by decide) (lv' := [(3, _), (2, _), (0, _), (1, _)]) rfl ?_
        refine mx_goto (pc := 74) 34 (mx_dd dd_X12_isWord 40 (74, .goto (-40), 3) rfl) rfl ?_
        refine mx_sel [2, 3, 1, 0] rfl ?_
        exact P
      · have P := P.2 c62
        refine mx_iconst (pc := 65) (v := (1 : Int32)) (mx_dd dd_X12_isWord 35 (65, .iconst 1, 1) rfl) (by decide) ?_
        refine mx_goto (pc := 66) 70 (mx_dd dd_X12_isWord 36 (66, .goto 4, 3) rfl) rfl ?_
        refine mx_istore_n (pc := 70) (mx_dd dd_X12_isWord 38 (70, .istore_n 2, 1) rfl) rfl (by decide) (lv' := [(2, _), (0, _), (1, _), (3, _)]) rfl ?_
        refine mx_iinc (pc := 71) 3 (mx_dd dd_X12_isWord 39 (71, .iinc 3 1, 3) rfl) rfl (mx_kadd (by decide : Int32.ofInt 1 = (1 : Int32))) (by decide) (lv' := [(3, _), (2, _), (0, _), (1, _)]) rfl ?_
        refine mx_goto (pc := 74) 34 (mx_dd dd_X12_isWord 40 (74, .goto (-40), 3) rfl) rfl ?_
        refine mx_sel [2, 3, 1, 0] rfl ?_
        exact P
theorem b_X12_takesWord {d : Nat} {h : mxH} {Q : mxRes → mxH → Prop} (x0 : Nat) (x1 : Nat)
    (P : 1 ≤ d ∧ hpK h x0 = 12 ∧ mx_SM mY_X12_isWord (d - 1) [.ref x0, .ref x1] h (mx_KI (fun v1 h1 => ((v1 = 0 → (v1 = 0 ∨ v1 = 1) ∧ Q (.inl (some (.int v1))) h1) ∧ (¬ v1 = 0 → hpK h1 x0 = 12 ∧ mx_SM mY_X12_passes (d - 1) [.ref x0] h1 (mx_KV (fun h2 => (v1 = 0 ∨ v1 = 1) ∧ Q (.inl (some (.int v1))) h2) (mx_XX mY_X12_takesWord Q))))) (mx_XX mY_X12_takesWord Q))) : mx_SM mY_X12_takesWord d [.ref x0, .ref x1] h Q := by
  refine mx_SM_of (by decide) (Nat.le_of_ble_eq_true rfl) ?_
  show mx_SX mY_X12_takesWord d 0 [(0, .ref x0), (1, .ref x1)] [] h Q
  refine mx_aload_n (pc := 0) 0 (mx_dd dd_X12_takesWord 0 (0, .aload_n 0, 1) rfl) rfl rfl ?_
  refine mx_aload_n (pc := 1) 1 (mx_dd dd_X12_takesWord 1 (1, .aload_n 1, 1) rfl) rfl rfl ?_
  obtain ⟨g1, P⟩ := P
  obtain ⟨g2, P⟩ := P
  refine mx_cVI (pc := 2) (Y := mY_X12_isWord) (As := [.ref _]) mx_ml_X12_74 mx_y_X12_isWord rfl g2 (by decide) rfl (by decide) rfl (mx_dd dd_X12_takesWord 2 (2, .invokevirtual 74, 3) rfl) g1 (by decide) P (fun v1 h1 P => ?_)
  refine mx_istore_n (pc := 5) (mx_dd dd_X12_takesWord 3 (5, .istore_n 2, 1) rfl) rfl (by decide) (lv' := [(2, _), (0, _), (1, _)]) rfl ?_
  refine mx_iload_n (pc := 6) 0 (mx_dd dd_X12_takesWord 4 (6, .iload_n 2, 1) rfl) rfl rfl ?_
  refine mx_if_eq (pc := 7) 14 (mx_dd dd_X12_takesWord 5 (7, .ifCond .eq 7, 3) rfl) rfl (fun c7 => ?_) (fun c7 => ?_)
  · have P := P.1 c7
    refine mx_iload_n (pc := 14) 0 (mx_dd dd_X12_takesWord 8 (14, .iload_n 2, 1) rfl) rfl rfl ?_
    obtain ⟨g3, P⟩ := P
    exact mx_ireturn (pc := 15) (mx_dd dd_X12_takesWord 9 (15, .ireturn, 1) rfl) rfl (mx_nb g3).1 P
  · have P := P.2 c7
    refine mx_aload_n (pc := 10) 1 (mx_dd dd_X12_takesWord 6 (10, .aload_n 0, 1) rfl) rfl rfl ?_
    obtain ⟨g4, P⟩ := P
    refine mx_cVV (pc := 11) (Y := mY_X12_passes) (As := []) mx_ml_X12_78 mx_y_X12_passes rfl g4 (by decide) rfl (by decide) rfl (mx_dd dd_X12_takesWord 7 (11, .invokevirtual 78, 3) rfl) g1 (by decide) P (fun h2 P => ?_)
    refine mx_iload_n (pc := 14) 0 (mx_dd dd_X12_takesWord 8 (14, .iload_n 2, 1) rfl) rfl rfl ?_
    obtain ⟨g5, P⟩ := P
    exact mx_ireturn (pc := 15) (mx_dd dd_X12_takesWord 9 (15, .ireturn, 1) rfl) rfl (mx_nb g5).1 P
theorem b_X12_takes {d : Nat} {h : mxH} {Q : mxRes → mxH → Prop} (x0 : Nat) (x1 : Int32)
    (P : 1 ≤ d ∧ hpK h x0 = 12 ∧ mx_SM mY_X12_hasFailed (d - 1) [.ref x0] h (mx_KI (fun v1 h1 => ((¬ v1 = 0 → mx_SX mY_X12_takes d 19 [(0, .ref x0)] [] h1 Q) ∧ (v1 = 0 → hpK h1 x0 = 12 ∧ ((¬ (hpI h1 x0 7) = x1 → mx_SX mY_X12_takes d 19 [(0, .ref x0)] [] h1 Q) ∧ ((hpI h1 x0 7) = x1 → (((1 : Int32) = 0 → Q (.inl (some (.int (1 : Int32)))) h1) ∧ (¬ (1 : Int32) = 0 → mx_SM mY_X12_passes (d - 1) [.ref x0] h1 (mx_KV (fun h2 => Q (.inl (some (.int (1 : Int32)))) h2) (mx_XX mY_X12_takes Q))))))))) (mx_XX mY_X12_takes Q))) : mx_SM mY_X12_takes d [.ref x0, .int x1] h Q := by
  refine mx_SM_of (by decide) (Nat.le_of_ble_eq_true rfl) ?_
  show mx_SX mY_X12_takes d 0 [(0, .ref x0), (1, .int x1)] [] h Q
  refine mx_aload_n (pc := 0) 0 (mx_dd dd_X12_takes 0 (0, .aload_n 0, 1) rfl) rfl rfl ?_
  obtain ⟨g1, P⟩ := P
  obtain ⟨g2, P⟩ := P
  refine mx_cVI (pc := 1) (Y := mY_X12_hasFailed) (As := []) mx_ml_X12_53 mx_y_X12_hasFailed rfl g2 (by decide) rfl (by decide) rfl (mx_dd dd_X12_takes 1 (1, .invokevirtual 53, 3) rfl) g1 (by decide) P (fun v1 h1 P => ?_)
  refine mx_if_ne (pc := 4) 19 (mx_dd dd_X12_takes 2 (4, .ifCond .ne 15, 3) rfl) rfl (fun c4 => ?_) (fun c4 => ?_)
  · have P := P.1 c4
    refine mx_sel [0] rfl ?_
    exact P
  · have P := P.2 c4
    refine mx_aload_n (pc := 7) 0 (mx_dd dd_X12_takes 3 (7, .aload_n 0, 1) rfl) rfl rfl ?_
    obtain ⟨g3, P⟩ := P
    refine mx_getI (pc := 8) mx_fl_X12_40 g3 rfl (mx_dd dd_X12_takes 4 (8, .getfield 40, 3) rfl) ?_
    refine mx_iload_n (pc := 11) 1 (mx_dd dd_X12_takes 5 (11, .iload_n 1, 1) rfl) rfl rfl ?_
    refine mx_icmp_ne (pc := 12) 19 (mx_dd dd_X12_takes 6 (12, .if_icmp .ne 7, 3) rfl) rfl (fun c12 => ?_) (fun c12 => ?_)
    · have P := P.1 c12
      refine mx_sel [0] rfl ?_
      exact P
    · have P := P.2 c12
      refine mx_iconst (pc := 15) (v := (1 : Int32)) (mx_dd dd_X12_takes 7 (15, .iconst 1, 1) rfl) (by decide) ?_
      refine mx_goto (pc := 16) 20 (mx_dd dd_X12_takes 8 (16, .goto 4, 3) rfl) rfl ?_
      refine mx_istore_n (pc := 20) (mx_dd dd_X12_takes 10 (20, .istore_n 2, 1) rfl) rfl (by decide) (lv' := [(2, _), (0, _), (1, _)]) rfl ?_
      refine mx_iload_n (pc := 21) 0 (mx_dd dd_X12_takes 11 (21, .iload_n 2, 1) rfl) rfl rfl ?_
      refine mx_if_eq (pc := 22) 29 (mx_dd dd_X12_takes 12 (22, .ifCond .eq 7, 3) rfl) rfl (fun c22 => ?_) (fun c22 => ?_)
      · have P := P.1 c22
        refine mx_iload_n (pc := 29) 0 (mx_dd dd_X12_takes 15 (29, .iload_n 2, 1) rfl) rfl rfl ?_
        exact mx_ireturn (pc := 30) (mx_dd dd_X12_takes 16 (30, .ireturn, 1) rfl) rfl rfl P
      · have P := P.2 c22
        refine mx_aload_n (pc := 25) 1 (mx_dd dd_X12_takes 13 (25, .aload_n 0, 1) rfl) rfl rfl ?_
        refine mx_cVV (pc := 26) (Y := mY_X12_passes) (As := []) mx_ml_X12_78 mx_y_X12_passes rfl g3 (by decide) rfl (by decide) rfl (mx_dd dd_X12_takes 14 (26, .invokevirtual 78, 3) rfl) g1 (by decide) P (fun h2 P => ?_)
        refine mx_iload_n (pc := 29) 0 (mx_dd dd_X12_takes 15 (29, .iload_n 2, 1) rfl) rfl rfl ?_
        exact mx_ireturn (pc := 30) (mx_dd dd_X12_takes 16 (30, .ireturn, 1) rfl) rfl rfl P
theorem b_X12_takes_19 {d : Nat} {h : mxH} {Q : mxRes → mxH → Prop} (x0 : Nat)
    (P : (((0 : Int32) = 0 → Q (.inl (some (.int (0 : Int32)))) h) ∧ (¬ (0 : Int32) = 0 → 1 ≤ d ∧ hpK h x0 = 12 ∧ mx_SM mY_X12_passes (d - 1) [.ref x0] h (mx_KV (fun h1 => Q (.inl (some (.int (0 : Int32)))) h1) (mx_XX mY_X12_takes Q))))) : mx_SX mY_X12_takes d 19 [(0, .ref x0)] [] h Q := by
  refine mx_iconst (pc := 19) (v := (0 : Int32)) (mx_dd dd_X12_takes 9 (19, .iconst 0, 1) rfl) (by decide) ?_
  refine mx_istore_n (pc := 20) (mx_dd dd_X12_takes 10 (20, .istore_n 2, 1) rfl) rfl (by decide) (lv' := [(2, _), (0, _)]) rfl ?_
  refine mx_iload_n (pc := 21) 0 (mx_dd dd_X12_takes 11 (21, .iload_n 2, 1) rfl) rfl rfl ?_
  refine mx_if_eq (pc := 22) 29 (mx_dd dd_X12_takes 12 (22, .ifCond .eq 7, 3) rfl) rfl (fun c22 => ?_) (fun c22 => ?_)
  · have P := P.1 c22
    refine mx_iload_n (pc := 29) 0 (mx_dd dd_X12_takes 15 (29, .iload_n 2, 1) rfl) rfl rfl ?_
    exact mx_ireturn (pc := 30) (mx_dd dd_X12_takes 16 (30, .ireturn, 1) rfl) rfl rfl P
  · have P := P.2 c22
    refine mx_aload_n (pc := 25) 1 (mx_dd dd_X12_takes 13 (25, .aload_n 0, 1) rfl) rfl rfl ?_
    obtain ⟨g1, P⟩ := P
    obtain ⟨g2, P⟩ := P
    refine mx_cVV (pc := 26) (Y := mY_X12_passes) (As := []) mx_ml_X12_78 mx_y_X12_passes rfl g2 (by decide) rfl (by decide) rfl (mx_dd dd_X12_takes 14 (26, .invokevirtual 78, 3) rfl) g1 (by decide) P (fun h1 P => ?_)
    refine mx_iload_n (pc := 29) 0 (mx_dd dd_X12_takes 15 (29, .iload_n 2, 1) rfl) rfl rfl ?_
    exact mx_ireturn (pc := 30) (mx_dd dd_X12_takes 16 (30, .ireturn, 1) rfl) rfl rfl P
theorem b_X12_needs {d : Nat} {h : mxH} {Q : mxRes → mxH → Prop} (x0 : Nat) (x1 : Int32)
    (P : 1 ≤ d ∧ hpK h x0 = 12 ∧ mx_SM mY_X12_takes (d - 1) [.ref x0, .int x1] h (mx_KI (fun v1 h1 => ((¬ v1 = 0 → Q (.inl none) h1) ∧ (v1 = 0 → hpK h1 x0 = 12 ∧ mx_SM mY_X12_fails (d - 1) [.ref x0, .int (1 : Int32)] h1 (mx_KV (fun h2 => Q (.inl none) h2) (mx_XX mY_X12_needs Q))))) (mx_XX mY_X12_needs Q))) : mx_SM mY_X12_needs d [.ref x0, .int x1] h Q := by
  refine mx_SM_of (by decide) (Nat.le_of_ble_eq_true rfl) ?_
  show mx_SX mY_X12_needs d 0 [(0, .ref x0), (1, .int x1)] [] h Q
  refine mx_aload_n (pc := 0) 0 (mx_dd dd_X12_needs 0 (0, .aload_n 0, 1) rfl) rfl rfl ?_
  refine mx_iload_n (pc := 1) 1 (mx_dd dd_X12_needs 1 (1, .iload_n 1, 1) rfl) rfl rfl ?_
  obtain ⟨g1, P⟩ := P
  obtain ⟨g2, P⟩ := P
  refine mx_cVI (pc := 2) (Y := mY_X12_takes) (As := [.int _]) mx_ml_X12_81 mx_y_X12_takes rfl g2 (by decide) rfl (by decide) rfl (mx_dd dd_X12_needs 2 (2, .invokevirtual 81, 3) rfl) g1 (by decide) P (fun v1 h1 P => ?_)
  refine mx_if_ne (pc := 5) 13 (mx_dd dd_X12_needs 3 (5, .ifCond .ne 8, 3) rfl) rfl (fun c5 => ?_) (fun c5 => ?_)
  · have P := P.1 c5
    exact mx_return (pc := 13) (mx_dd dd_X12_needs 7 (13, .return_, 1) rfl) rfl P
  · have P := P.2 c5
    refine mx_aload_n (pc := 8) 0 (mx_dd dd_X12_needs 4 (8, .aload_n 0, 1) rfl) rfl rfl ?_
    refine mx_iconst (pc := 9) (v := (1 : Int32)) (mx_dd dd_X12_needs 5 (9, .iconst 1, 1) rfl) (by decide) ?_
    obtain ⟨g3, P⟩ := P
    refine mx_cVV (pc := 10) (Y := mY_X12_fails) (As := [.int _]) mx_ml_X12_84 mx_y_X12_fails rfl g3 (by decide) rfl (by decide) rfl (mx_dd dd_X12_needs 6 (10, .invokevirtual 84, 3) rfl) g1 (by decide) P (fun h2 P => ?_)
    exact mx_return (pc := 13) (mx_dd dd_X12_needs 7 (13, .return_, 1) rfl) rfl P
theorem b_X12_needsWord {d : Nat} {h : mxH} {Q : mxRes → mxH → Prop} (x0 : Nat) (x1 : Nat)
    (P : 1 ≤ d ∧ hpK h x0 = 12 ∧ mx_SM mY_X12_takesWord (d - 1) [.ref x0, .ref x1] h (mx_KI (fun v1 h1 => ((¬ v1 = 0 → Q (.inl none) h1) ∧ (v1 = 0 → hpK h1 x0 = 12 ∧ mx_SM mY_X12_fails (d - 1) [.ref x0, .int (1 : Int32)] h1 (mx_KV (fun h2 => Q (.inl none) h2) (mx_XX mY_X12_needsWord Q))))) (mx_XX mY_X12_needsWord Q))) : mx_SM mY_X12_needsWord d [.ref x0, .ref x1] h Q := by
  refine mx_SM_of (by decide) (Nat.le_of_ble_eq_true rfl) ?_
  show mx_SX mY_X12_needsWord d 0 [(0, .ref x0), (1, .ref x1)] [] h Q
  refine mx_aload_n (pc := 0) 0 (mx_dd dd_X12_needsWord 0 (0, .aload_n 0, 1) rfl) rfl rfl ?_
  refine mx_aload_n (pc := 1) 1 (mx_dd dd_X12_needsWord 1 (1, .aload_n 1, 1) rfl) rfl rfl ?_
  obtain ⟨g1, P⟩ := P
  obtain ⟨g2, P⟩ := P
  refine mx_cVI (pc := 2) (Y := mY_X12_takesWord) (As := [.ref _]) mx_ml_X12_88 mx_y_X12_takesWord rfl g2 (by decide) rfl (by decide) rfl (mx_dd dd_X12_needsWord 2 (2, .invokevirtual 88, 3) rfl) g1 (by decide) P (fun v1 h1 P => ?_)
  refine mx_if_ne (pc := 5) 13 (mx_dd dd_X12_needsWord 3 (5, .ifCond .ne 8, 3) rfl) rfl (fun c5 => ?_) (fun c5 => ?_)
  · have P := P.1 c5
    exact mx_return (pc := 13) (mx_dd dd_X12_needsWord 7 (13, .return_, 1) rfl) rfl P
  · have P := P.2 c5
    refine mx_aload_n (pc := 8) 0 (mx_dd dd_X12_needsWord 4 (8, .aload_n 0, 1) rfl) rfl rfl ?_
    refine mx_iconst (pc := 9) (v := (1 : Int32)) (mx_dd dd_X12_needsWord 5 (9, .iconst 1, 1) rfl) (by decide) ?_
    obtain ⟨g3, P⟩ := P
    refine mx_cVV (pc := 10) (Y := mY_X12_fails) (As := [.int _]) mx_ml_X12_84 mx_y_X12_fails rfl g3 (by decide) rfl (by decide) rfl (mx_dd dd_X12_needsWord 6 (10, .invokevirtual 84, 3) rfl) g1 (by decide) P (fun h2 P => ?_)
    exact mx_return (pc := 13) (mx_dd dd_X12_needsWord 7 (13, .return_, 1) rfl) rfl P
theorem b_X12_valueOf {d : Nat} {h : mxH} {Q : mxRes → mxH → Prop} (x0 : Int32)
    (P : ((x0 < (97 : Int32) → Q (.inl (some (.long (((x0 - (48 : Int32)) + (27 : Int32)).toInt64)))) h) ∧ (¬ x0 < (97 : Int32) → Q (.inl (some (.long (((x0 - (97 : Int32)) + (1 : Int32)).toInt64)))) h))) : mx_SM mY_X12_valueOf d [.int x0] h Q := by
  refine mx_SM_of (by decide) (Nat.le_of_ble_eq_true rfl) ?_
  show mx_SX mY_X12_valueOf d 0 [(0, .int x0)] [] h Q
  refine mx_iload_n (pc := 0) 0 (mx_dd dd_X12_valueOf 0 (0, .iload_n 0, 1) rfl) rfl rfl ?_
  refine mx_bipush (pc := 1) (v := (97 : Int32)) (mx_dd dd_X12_valueOf 1 (1, .bipush 97, 2) rfl) (by decide) ?_
  refine mx_icmp_lt (pc := 3) 16 (mx_dd dd_X12_valueOf 2 (3, .if_icmp .lt 13, 3) rfl) rfl (fun c3 => ?_) (fun c3 => ?_)
  · have P := P.1 c3
    refine mx_iload_n (pc := 16) 0 (mx_dd dd_X12_valueOf 10 (16, .iload_n 0, 1) rfl) rfl rfl ?_
    refine mx_bipush (pc := 17) (v := (48 : Int32)) (mx_dd dd_X12_valueOf 11 (17, .bipush 48, 2) rfl) (by decide) ?_
    refine mx_isub (pc := 19) (mx_dd dd_X12_valueOf 12 (19, .isub, 1) rfl) ?_
    refine mx_bipush (pc := 20) (v := (27 : Int32)) (mx_dd dd_X12_valueOf 13 (20, .bipush 27, 2) rfl) (by decide) ?_
    refine mx_iadd (pc := 22) (mx_dd dd_X12_valueOf 14 (22, .iadd, 1) rfl) ?_
    refine mx_i2l (pc := 23) (mx_dd dd_X12_valueOf 15 (23, .i2l, 1) rfl) ?_
    exact mx_lreturn (pc := 24) (mx_dd dd_X12_valueOf 16 (24, .lreturn, 1) rfl) rfl P
  · have P := P.2 c3
    refine mx_iload_n (pc := 6) 0 (mx_dd dd_X12_valueOf 3 (6, .iload_n 0, 1) rfl) rfl rfl ?_
    refine mx_bipush (pc := 7) (v := (97 : Int32)) (mx_dd dd_X12_valueOf 4 (7, .bipush 97, 2) rfl) (by decide) ?_
    refine mx_isub (pc := 9) (mx_dd dd_X12_valueOf 5 (9, .isub, 1) rfl) ?_
    refine mx_iconst (pc := 10) (v := (1 : Int32)) (mx_dd dd_X12_valueOf 6 (10, .iconst 1, 1) rfl) (by decide) ?_
    refine mx_iadd (pc := 11) (mx_dd dd_X12_valueOf 7 (11, .iadd, 1) rfl) ?_
    refine mx_i2l (pc := 12) (mx_dd dd_X12_valueOf 8 (12, .i2l, 1) rfl) ?_
    refine mx_goto (pc := 13) 24 (mx_dd dd_X12_valueOf 9 (13, .goto 11, 3) rfl) rfl ?_
    exact mx_lreturn (pc := 24) (mx_dd dd_X12_valueOf 16 (24, .lreturn, 1) rfl) rfl P
theorem b_X12_word {d : Nat} {h : mxH} {Q : mxRes → mxH → Prop} (x0 : Nat)
    (P : 1 ≤ d ∧ hpK h x0 = 12 ∧ mx_SM mY_X12_hasFailed (d - 1) [.ref x0] h (mx_KI (fun v1 h1 => ((¬ v1 = 0 → mx_SX mY_X12_word d 29 [(0, .ref x0)] [] h1 Q) ∧ (v1 = 0 → hpK h1 x0 = 12 ∧ ((¬ (hpI h1 x0 7) = (1 : Int32) → mx_SX mY_X12_word d 24 [(0, .ref x0)] [] h1 Q) ∧ ((hpI h1 x0 7) = (1 : Int32) → (((hpI h1 x0 8) ≤ (12 : Int32) → mx_SX mY_X12_word d 29 [(0, .ref x0)] [] h1 Q) ∧ (¬ (hpI h1 x0 8) ≤ (12 : Int32) → mx_SX mY_X12_word d 24 [(0, .ref x0)] [] h1 Q))))))) (mx_XX mY_X12_word Q))) : mx_SM mY_X12_word d [.ref x0] h Q := by
  refine mx_SM_of (by decide) (Nat.le_of_ble_eq_true rfl) ?_
  show mx_SX mY_X12_word d 0 [(0, .ref x0)] [] h Q
  refine mx_aload_n (pc := 0) 0 (mx_dd dd_X12_word 0 (0, .aload_n 0, 1) rfl) rfl rfl ?_
  obtain ⟨g1, P⟩ := P
  obtain ⟨g2, P⟩ := P
  refine mx_cVI (pc := 1) (Y := mY_X12_hasFailed) (As := []) mx_ml_X12_53 mx_y_X12_hasFailed rfl g2 (by decide) rfl (by decide) rfl (mx_dd dd_X12_word 1 (1, .invokevirtual 53, 3) rfl) g1 (by decide) P (fun v1 h1 P => ?_)
  refine mx_if_ne (pc := 4) 29 (mx_dd dd_X12_word 2 (4, .ifCond .ne 25, 3) rfl) rfl (fun c4 => ?_) (fun c4 => ?_)
  · have P := P.1 c4
    exact P
  · have P := P.2 c4
    refine mx_aload_n (pc := 7) 0 (mx_dd dd_X12_word 3 (7, .aload_n 0, 1) rfl) rfl rfl ?_
    obtain ⟨g3, P⟩ := P
    refine mx_getI (pc := 8) mx_fl_X12_40 g3 rfl (mx_dd dd_X12_word 4 (8, .getfield 40, 3) rfl) ?_
    refine mx_iconst (pc := 11) (v := (1 : Int32)) (mx_dd dd_X12_word 5 (11, .iconst 1, 1) rfl) (by decide) ?_
    refine mx_icmp_ne (pc := 12) 24 (mx_dd dd_X12_word 6 (12, .if_icmp .ne 12, 3) rfl) rfl (fun c12 => ?_) (fun c12 => ?_)
    · have P := P.1 c12
      exact P
    · have P := P.2 c12
      refine mx_aload_n (pc := 15) 0 (mx_dd dd_X12_word 7 (15, .aload_n 0, 1) rfl) rfl rfl ?_
      refine mx_getI (pc := 16) mx_fl_X12_33 g3 rfl (mx_dd dd_X12_word 8 (16, .getfield 33, 3) rfl) ?_
      refine mx_bipush (pc := 19) (v := (12 : Int32)) (mx_dd dd_X12_word 9 (19, .bipush 12, 2) rfl) (by decide) ?_
      refine mx_icmp_le (pc := 21) 29 (mx_dd dd_X12_word 10 (21, .if_icmp .le 8, 3) rfl) rfl (fun c21 => ?_) (fun c21 => ?_)
      · have P := P.1 c21
        exact P
      · have P := P.2 c21
        exact P
theorem b_X12_word_24 {d : Nat} {h : mxH} {Q : mxRes → mxH → Prop} (x0 : Nat)
    (P : 1 ≤ d ∧ hpK h x0 = 12 ∧ mx_SM mY_X12_fails (d - 1) [.ref x0, .int (1 : Int32)] h (mx_KV (fun h1 => mx_SX mY_X12_word d 29 [(0, .ref x0)] [] h1 Q) (mx_XX mY_X12_word Q))) : mx_SX mY_X12_word d 24 [(0, .ref x0)] [] h Q := by
  refine mx_aload_n (pc := 24) 0 (mx_dd dd_X12_word 11 (24, .aload_n 0, 1) rfl) rfl rfl ?_
  refine mx_iconst (pc := 25) (v := (1 : Int32)) (mx_dd dd_X12_word 12 (25, .iconst 1, 1) rfl) (by decide) ?_
  obtain ⟨g1, P⟩ := P
  obtain ⟨g2, P⟩ := P
  refine mx_cVV (pc := 26) (Y := mY_X12_fails) (As := [.int _]) mx_ml_X12_84 mx_y_X12_fails rfl g2 (by decide) rfl (by decide) rfl (mx_dd dd_X12_word 13 (26, .invokevirtual 84, 3) rfl) g1 (by decide) P (fun h1 P => ?_)
  exact P
theorem b_X12_word_29 {d : Nat} {h : mxH} {Q : mxRes → mxH → Prop} (x0 : Nat)
    (P : 1 ≤ d ∧ hpK h x0 = 12 ∧ mx_SM mY_X12_hasFailed (d - 1) [.ref x0] h (mx_KI (fun v1 h1 => ((v1 = 0 → mx_SX mY_X12_word d 42 [(0, .ref x0), (1, .long (0 : Int64)), (3, .int (0 : Int32))] [] h1 Q) ∧ (¬ v1 = 0 → Q (.inl (some (.long (0 : Int64)))) h1))) (mx_XX mY_X12_word Q))) : mx_SX mY_X12_word d 29 [(0, .ref x0)] [] h Q := by
  refine mx_aload_n (pc := 29) 0 (mx_dd dd_X12_word 14 (29, .aload_n 0, 1) rfl) rfl rfl ?_
  obtain ⟨g1, P⟩ := P
  obtain ⟨g2, P⟩ := P
  refine mx_cVI (pc := 30) (Y := mY_X12_hasFailed) (As := []) mx_ml_X12_53 mx_y_X12_hasFailed rfl g2 (by decide) rfl (by decide) rfl (mx_dd dd_X12_word 15 (30, .invokevirtual 53, 3) rfl) g1 (by decide) P (fun v1 h1 P => ?_)
  refine mx_if_eq (pc := 33) 38 (mx_dd dd_X12_word 16 (33, .ifCond .eq 5, 3) rfl) rfl (fun c33 => ?_) (fun c33 => ?_)
  · have P := P.1 c33
    refine mx_lconst (pc := 38) (v := (0 : Int64)) (mx_dd dd_X12_word 19 (38, .lconst 0, 1) rfl) (by decide) ?_
    refine mx_lstore_n (pc := 39) (mx_dd dd_X12_word 20 (39, .lstore_n 1, 1) rfl) rfl (by decide) (lv' := [(1, _), (0, _)]) rfl ?_
    refine mx_iconst (pc := 40) (v := (0 : Int32)) (mx_dd dd_X12_word 21 (40, .iconst 0, 1) rfl) (by decide) ?_
    refine mx_istore_n (pc := 41) (mx_dd dd_X12_word 22 (41, .istore_n 3, 1) rfl) rfl (by decide) (lv' := [(3, _), (1, _), (0, _)]) rfl ?_
    refine mx_sel [2, 1, 0] rfl ?_
    exact P
  · have P := P.2 c33
    refine mx_lconst (pc := 36) (v := (0 : Int64)) (mx_dd dd_X12_word 17 (36, .lconst 0, 1) rfl) (by decide) ?_
    exact mx_lreturn (pc := 37) (mx_dd dd_X12_word 18 (37, .lreturn, 1) rfl) rfl P
theorem b_X12_word_42 {d : Nat} {h : mxH} {Q : mxRes → mxH → Prop} (x0 : Nat) (x1 : Int64) (x3 : Int32)
    (P : hpK h x0 = 12 ∧ (((hpI h x0 8) ≤ x3 → 1 ≤ d ∧ mx_SM mY_X12_passes (d - 1) [.ref x0] h (mx_KV (fun h1 => Q (.inl (some (.long x1))) h1) (mx_XX mY_X12_word Q))) ∧ (¬ (hpI h x0 8) ≤ x3 → ∃ b1 : Nat, hpR h x0 1 = some b1 ∧ hpK h b1 = 13 ∧ vp_in ((hpI h x0 5) + x3) (hpZ h b1) ∧ 1 ≤ d ∧ mx_SM mY_X12_valueOf (d - 1) [.int (hpI h b1 ((hpI h x0 5) + x3).toNatClampNeg)] h (mx_KL (fun v1 h2 => mx_SX mY_X12_word d 42 [(0, .ref x0), (1, .long (((37 : Int64) * x1) + v1)), (3, .int (x3 + (1 : Int32)))] [] h2 Q) (mx_XX mY_X12_word Q))))) : mx_SX mY_X12_word d 42 [(0, .ref x0), (1, .long x1), (3, .int x3)] [] h Q := by
  refine mx_iload_n (pc := 42) 2 (mx_dd dd_X12_word 23 (42, .iload_n 3, 1) rfl) rfl rfl ?_
  refine mx_aload_n (pc := 43) 0 (mx_dd dd_X12_word 24 (43, .aload_n 0, 1) rfl) rfl rfl ?_
  obtain ⟨g1, P⟩ := P
  refine mx_getI (pc := 44) mx_fl_X12_33 g1 rfl (mx_dd dd_X12_word 25 (44, .getfield 33, 3) rfl) ?_
  refine mx_icmp_ge (pc := 47) 77 (mx_dd dd_X12_word 26 (47, .if_icmp .ge 30, 3) rfl) rfl (fun c47 => ?_) (fun c47 => ?_)
  · have P := P.1 c47
    refine mx_aload_n (pc := 77) 0 (mx_dd dd_X12_word 42 (77, .aload_n 0, 1) rfl) rfl rfl ?_
    obtain ⟨g2, P⟩ := P
    refine mx_cVV (pc := 78) (Y := mY_X12_passes) (As := []) mx_ml_X12_78 mx_y_X12_passes rfl g1 (by decide) rfl (by decide) rfl (mx_dd dd_X12_word 43 (78, .invokevirtual 78, 3) rfl) g2 (by decide) P (fun h1 P => ?_)
    refine mx_lload_n (pc := 81) 1 (mx_dd dd_X12_word 44 (81, .lload_n 1, 1) rfl) rfl rfl ?_
    exact mx_lreturn (pc := 82) (mx_dd dd_X12_word 45 (82, .lreturn, 1) rfl) rfl P
  · have P := P.2 c47
    refine mx_ldc2 (pc := 50) mx_cL_X12_91 (mx_dd dd_X12_word 27 (50, .ldc2_w 91, 3) rfl) ?_
    refine mx_lload_n (pc := 53) 1 (mx_dd dd_X12_word 28 (53, .lload_n 1, 1) rfl) rfl rfl ?_
    refine mx_lmul (pc := 54) (mx_dd dd_X12_word 29 (54, .lmul, 1) rfl) ?_
    refine mx_aload_n (pc := 55) 0 (mx_dd dd_X12_word 30 (55, .aload_n 0, 1) rfl) rfl rfl ?_
    obtain ⟨b1, g3, P⟩ := P
    refine mx_getR (pc := 56) mx_fl_X12_14 g1 rfl g3 (mx_dd dd_X12_word 31 (56, .getfield 14, 3) rfl) ?_
    refine mx_aload_n (pc := 59) 0 (mx_dd dd_X12_word 32 (59, .aload_n 0, 1) rfl) rfl rfl ?_
    refine mx_getI (pc := 60) mx_fl_X12_27 g1 rfl (mx_dd dd_X12_word 33 (60, .getfield 27, 3) rfl) ?_
    refine mx_iload_n (pc := 63) 2 (mx_dd dd_X12_word 34 (63, .iload_n 3, 1) rfl) rfl rfl ?_
    refine mx_iadd (pc := 64) (mx_dd dd_X12_word 35 (64, .iadd, 1) rfl) ?_
    obtain ⟨g4, P⟩ := P
    obtain ⟨g5, P⟩ := P
    refine mx_bald (pc := 65) g4 g5 (mx_dd dd_X12_word 36 (65, .baload, 1) rfl) ?_
    obtain ⟨g6, P⟩ := P
    refine mx_cSL (pc := 66) (Y := mY_X12_valueOf) (As := [.int _]) mx_ml_X12_93 mx_y_X12_valueOf rfl rfl (by simp [Value.category]) rfl (mx_dd dd_X12_word 37 (66, .invokestatic 93, 3) rfl) g6 (by decide) P (fun v1 h2 P => ?_)
    refine mx_ladd (pc := 69) (mx_dd dd_X12_word 38 (69, .ladd, 1) rfl) ?_
    refine mx_lstore_n (pc := 70) (mx_dd dd_X12_word 39 (70, .lstore_n 1, 1) rfl) rfl (by decide) (lv' := [(1, _), (0, _), (3, _)]) rfl ?_
    refine mx_iinc (pc := 71) 2 (mx_dd dd_X12_word 40 (71, .iinc 3 1, 3) rfl) rfl (mx_kadd (by decide : Int32.ofInt 1 = (1 : Int32))) (by decide) (lv' := [(3, _), (1, _), (0, _)]) rfl ?_
    refine mx_goto (pc := 74) 42 (mx_dd dd_X12_word 41 (74, .goto (-32), 3) rfl) rfl ?_
    refine mx_sel [2, 1, 0] rfl ?_
    exact P
theorem b_X12_named {d : Nat} {h : mxH} {Q : mxRes → mxH → Prop} (x0 : Nat)
    (P : mx_SX mY_X12_named d 4 [(0, .ref x0), (1, .long (0 : Int64)), (3, .int (0 : Int32))] [] h Q) : mx_SM mY_X12_named d [.ref x0] h Q := by
  refine mx_SM_of (by decide) (Nat.le_of_ble_eq_true rfl) ?_
  show mx_SX mY_X12_named d 0 [(0, .ref x0)] [] h Q
  refine mx_lconst (pc := 0) (v := (0 : Int64)) (mx_dd dd_X12_named 0 (0, .lconst 0, 1) rfl) (by decide) ?_
  refine mx_lstore_n (pc := 1) (mx_dd dd_X12_named 1 (1, .lstore_n 1, 1) rfl) rfl (by decide) (lv' := [(1, _), (0, _)]) rfl ?_
  refine mx_iconst (pc := 2) (v := (0 : Int32)) (mx_dd dd_X12_named 2 (2, .iconst 0, 1) rfl) (by decide) ?_
  refine mx_istore_n (pc := 3) (mx_dd dd_X12_named 3 (3, .istore_n 3, 1) rfl) rfl (by decide) (lv' := [(3, _), (1, _), (0, _)]) rfl ?_
  refine mx_sel [2, 1, 0] rfl ?_
  exact P
theorem b_X12_named_4 {d : Nat} {h : mxH} {Q : mxRes → mxH → Prop} (x0 : Nat) (x1 : Int64) (x3 : Int32)
    (P : ∃ i1 : Nat, i1 < 36 ∧ x0 = 3 + i1 ∧ 1 ≤ d ∧ mx_SM mY_J0_length_8abf5 (d - 1) [.ref (3 + i1)] h (mx_KI (fun v1 h1 => ((v1 ≤ x3 → Q (.inl (some (.long x1))) h1) ∧ (¬ v1 ≤ x3 → mx_SM mY_J0_charAt_5068e (d - 1) [.ref (3 + i1), .int x3] h1 (mx_KI (fun v2 h2 => mx_SM mY_X12_valueOf (d - 1) [.int v2] h2 (mx_KL (fun v3 h3 => mx_SX mY_X12_named d 4 [(0, .ref x0), (1, .long (((37 : Int64) * x1) + v3)), (3, .int (x3 + (1 : Int32)))] [] h3 Q) (mx_XX mY_X12_named Q))) fun _ _ => False)))) fun _ _ => False)) : mx_SX mY_X12_named d 4 [(0, .ref x0), (1, .long x1), (3, .int x3)] [] h Q := by
  refine mx_iload_n (pc := 4) 2 (mx_dd dd_X12_named 4 (4, .iload_n 3, 1) rfl) rfl rfl ?_
  refine mx_aload_n (pc := 5) 0 (mx_dd dd_X12_named 5 (5, .aload_n 0, 1) rfl) rfl rfl ?_
  obtain ⟨i1, g1, g2, P⟩ := P
  subst g2
  obtain ⟨g3, P⟩ := P
  refine mx_cTI (pc := 6) (Y := mY_J0_length_8abf5) (As := []) g1 mx_ml_X12_64 mx_y_J0_length_8abf5 rfl rfl (by simp [Value.category]) rfl (mx_dd dd_X12_named 6 (6, .invokevirtual 64, 3) rfl) g3 (by decide) P (fun v1 h1 P => ?_)
  refine mx_icmp_ge (pc := 9) 33 (mx_dd dd_X12_named 7 (9, .if_icmp .ge 24, 3) rfl) rfl (fun c9 => ?_) (fun c9 => ?_)
  · have P := P.1 c9
    refine mx_lload_n (pc := 33) 1 (mx_dd dd_X12_named 19 (33, .lload_n 1, 1) rfl) rfl rfl ?_
    exact mx_lreturn (pc := 34) (mx_dd dd_X12_named 20 (34, .lreturn, 1) rfl) rfl P
  · have P := P.2 c9
    refine mx_ldc2 (pc := 12) mx_cL_X12_91 (mx_dd dd_X12_named 8 (12, .ldc2_w 91, 3) rfl) ?_
    refine mx_lload_n (pc := 15) 1 (mx_dd dd_X12_named 9 (15, .lload_n 1, 1) rfl) rfl rfl ?_
    refine mx_lmul (pc := 16) (mx_dd dd_X12_named 10 (16, .lmul, 1) rfl) ?_
    refine mx_aload_n (pc := 17) 0 (mx_dd dd_X12_named 11 (17, .aload_n 0, 1) rfl) rfl rfl ?_
    refine mx_iload_n (pc := 18) 2 (mx_dd dd_X12_named 12 (18, .iload_n 3, 1) rfl) rfl rfl ?_
    refine mx_cTI (pc := 19) (Y := mY_J0_charAt_5068e) (As := [.int _]) g1 mx_ml_X12_70 mx_y_J0_charAt_5068e rfl rfl (by simp [Value.category]) rfl (mx_dd dd_X12_named 13 (19, .invokevirtual 70, 3) rfl) g3 (by decide) P (fun v2 h2 P => ?_)
    refine mx_cSL (pc := 22) (Y := mY_X12_valueOf) (As := [.int _]) mx_ml_X12_93 mx_y_X12_valueOf rfl rfl (by simp [Value.category]) rfl (mx_dd dd_X12_named 14 (22, .invokestatic 93, 3) rfl) g3 (by decide) P (fun v3 h3 P => ?_)
    refine mx_ladd (pc := 25) (mx_dd dd_X12_named 15 (25, .ladd, 1) rfl) ?_
    refine mx_lstore_n (pc := 26) (mx_dd dd_X12_named 16 (26, .lstore_n 1, 1) rfl) rfl (by decide) (lv' := [(1, _), (0, _), (3, _)]) rfl ?_
    refine mx_iinc (pc := 27) 2 (mx_dd dd_X12_named 17 (27, .iinc 3 1, 3) rfl) rfl (mx_kadd (by decide : Int32.ofInt 1 = (1 : Int32))) (by decide) (lv' := [(3, _), (1, _), (0, _)]) rfl ?_
    refine mx_goto (pc := 30) 4 (mx_dd dd_X12_named 18 (30, .goto (-26), 3) rfl) rfl ?_
    refine mx_sel [2, 1, 0] rfl ?_
    exact P
theorem b_X12_isCommand {d : Nat} {h : mxH} {Q : mxRes → mxH → Prop} (x0 : Nat) (x1 : Int64)
    (P : hpK h x0 = 12 ∧ (((lg_cmp x1 (hpL h x0 13)) = 0 → mx_SX mY_X12_isCommand d 108 [] [] h Q) ∧ (¬ (lg_cmp x1 (hpL h x0 13)) = 0 → (((lg_cmp x1 (hpL h x0 14)) = 0 → mx_SX mY_X12_isCommand d 108 [] [] h Q) ∧ (¬ (lg_cmp x1 (hpL h x0 14)) = 0 → (((lg_cmp x1 (hpL h x0 15)) = 0 → mx_SX mY_X12_isCommand d 108 [] [] h Q) ∧ (¬ (lg_cmp x1 (hpL h x0 15)) = 0 → (((lg_cmp x1 (hpL h x0 16)) = 0 → mx_SX mY_X12_isCommand d 108 [] [] h Q) ∧ (¬ (lg_cmp x1 (hpL h x0 16)) = 0 → (((lg_cmp x1 (hpL h x0 17)) = 0 → mx_SX mY_X12_isCommand d 108 [] [] h Q) ∧ (¬ (lg_cmp x1 (hpL h x0 17)) = 0 → (((lg_cmp x1 (hpL h x0 18)) = 0 → mx_SX mY_X12_isCommand d 108 [] [] h Q) ∧ (¬ (lg_cmp x1 (hpL h x0 18)) = 0 → (((lg_cmp x1 (hpL h x0 19)) = 0 → mx_SX mY_X12_isCommand d 108 [] [] h Q) ∧ (¬ (lg_cmp x1 (hpL h x0 19)) = 0 → (((lg_cmp x1 (hpL h x0 20)) = 0 → mx_SX mY_X12_isCommand d 108 [] [] h Q) ∧ (¬ (lg_cmp x1 (hpL h x0 20)) = 0 → (((lg_cmp x1 (hpL h x0 21)) = 0 → mx_SX mY_X12_isCommand d 108 [] [] h Q) ∧ (¬ (lg_cmp x1 (hpL h x0 21)) = 0 → (((lg_cmp x1 (hpL h x0 22)) = 0 → mx_SX mY_X12_isCommand d 108 [] [] h Q) ∧ (¬ (lg_cmp x1 (hpL h x0 22)) = 0 → (((lg_cmp x1 (hpL h x0 23)) = 0 → mx_SX mY_X12_isCommand d 108 [] [] h Q) ∧ (¬ (lg_cmp x1 (hpL h x0 23)) = 0 → ((¬ (lg_cmp x1 (hpL h x0 24)) = 0 → Q (.inl (some (.int (0 : Int32)))) h) ∧ ((lg_cmp x1 (hpL h x0 24)) = 0 → mx_SX mY_X12_isCommand d 108 [] [] h Q))))))))))))))))))))))))) : mx_SM mY_X12_isCommand d [.ref x0, .long x1] h Q := by
  refine mx_SM_of (by decide) (Nat.le_of_ble_eq_true rfl) ?_
  show mx_SX mY_X12_isCommand d 0 [(0, .ref x0), (1, .long x1)] [] h Q
  refine mx_lload_n (pc := 0) 1 (mx_dd dd_X12_isCommand_0 0 (0, .lload_n 1, 1) rfl) rfl rfl ?_
  refine mx_aload_n (pc := 1) 0 (mx_dd dd_X12_isCommand_0 1 (1, .aload_n 0, 1) rfl) rfl rfl ?_
  obtain ⟨g1, P⟩ := P
  refine mx_getL (pc := 2) mx_fl_X12_97 g1 rfl (mx_dd dd_X12_isCommand_0 2 (2, .getfield 97, 3) rfl) ?_
  refine mx_lcmp (pc := 5) (mx_dd dd_X12_isCommand_0 3 (5, .lcmp, 1) rfl) ?_
  refine mx_if_eq (pc := 6) 108 (mx_dd dd_X12_isCommand_0 4 (6, .ifCond .eq 102, 3) rfl) rfl (fun c6 => ?_) (fun c6 => ?_)
  · have P := P.1 c6
    refine mx_sel [] rfl ?_
    exact P
  · have P := P.2 c6
    refine mx_lload_n (pc := 9) 1 (mx_dd dd_X12_isCommand_0 5 (9, .lload_n 1, 1) rfl) rfl rfl ?_
    refine mx_aload_n (pc := 10) 0 (mx_dd dd_X12_isCommand_0 6 (10, .aload_n 0, 1) rfl) rfl rfl ?_
    refine mx_getL (pc := 11) mx_fl_X12_101 g1 rfl (mx_dd dd_X12_isCommand_0 7 (11, .getfield 101, 3) rfl) ?_
    refine mx_lcmp (pc := 14) (mx_dd dd_X12_isCommand_0 8 (14, .lcmp, 1) rfl) ?_
    refine mx_if_eq (pc := 15) 108 (mx_dd dd_X12_isCommand_0 9 (15, .ifCond .eq 93, 3) rfl) rfl (fun c15 => ?_) (fun c15 => ?_)
    · have P := P.1 c15
      refine mx_sel [] rfl ?_
      exact P
    · have P := P.2 c15
      refine mx_lload_n (pc := 18) 1 (mx_dd dd_X12_isCommand_0 10 (18, .lload_n 1, 1) rfl) rfl rfl ?_
      refine mx_aload_n (pc := 19) 0 (mx_dd dd_X12_isCommand_0 11 (19, .aload_n 0, 1) rfl) rfl rfl ?_
      refine mx_getL (pc := 20) mx_fl_X12_104 g1 rfl (mx_dd dd_X12_isCommand_0 12 (20, .getfield 104, 3) rfl) ?_
      refine mx_lcmp (pc := 23) (mx_dd dd_X12_isCommand_0 13 (23, .lcmp, 1) rfl) ?_
      refine mx_if_eq (pc := 24) 108 (mx_dd dd_X12_isCommand_0 14 (24, .ifCond .eq 84, 3) rfl) rfl (fun c24 => ?_) (fun c24 => ?_)
      · have P := P.1 c24
        refine mx_sel [] rfl ?_
        exact P
      · have P := P.2 c24
        refine mx_lload_n (pc := 27) 1 (mx_dd dd_X12_isCommand_0 15 (27, .lload_n 1, 1) rfl) rfl rfl ?_
        refine mx_aload_n (pc := 28) 0 (mx_dd dd_X12_isCommand_0 16 (28, .aload_n 0, 1) rfl) rfl rfl ?_
        refine mx_getL (pc := 29) mx_fl_X12_107 g1 rfl (mx_dd dd_X12_isCommand_0 17 (29, .getfield 107, 3) rfl) ?_
        refine mx_lcmp (pc := 32) (mx_dd dd_X12_isCommand_0 18 (32, .lcmp, 1) rfl) ?_
        refine mx_if_eq (pc := 33) 108 (mx_dd dd_X12_isCommand_0 19 (33, .ifCond .eq 75, 3) rfl) rfl (fun c33 => ?_) (fun c33 => ?_)
        · have P := P.1 c33
          refine mx_sel [] rfl ?_
          exact P
        · have P := P.2 c33
          refine mx_lload_n (pc := 36) 1 (mx_dd dd_X12_isCommand_0 20 (36, .lload_n 1, 1) rfl) rfl rfl ?_
          refine mx_aload_n (pc := 37) 0 (mx_dd dd_X12_isCommand_0 21 (37, .aload_n 0, 1) rfl) rfl rfl ?_
          refine mx_getL (pc := 38) mx_fl_X12_110 g1 rfl (mx_dd dd_X12_isCommand_0 22 (38, .getfield 110, 3) rfl) ?_
          refine mx_lcmp (pc := 41) (mx_dd dd_X12_isCommand_0 23 (41, .lcmp, 1) rfl) ?_
          refine mx_if_eq (pc := 42) 108 (mx_dd dd_X12_isCommand_0 24 (42, .ifCond .eq 66, 3) rfl) rfl (fun c42 => ?_) (fun c42 => ?_)
          · have P := P.1 c42
            refine mx_sel [] rfl ?_
            exact P
          · have P := P.2 c42
            refine mx_lload_n (pc := 45) 1 (mx_dd dd_X12_isCommand_0 25 (45, .lload_n 1, 1) rfl) rfl rfl ?_
            refine mx_aload_n (pc := 46) 0 (mx_dd dd_X12_isCommand_0 26 (46, .aload_n 0, 1) rfl) rfl rfl ?_
            refine mx_getL (pc := 47) mx_fl_X12_113 g1 rfl (mx_dd dd_X12_isCommand_0 27 (47, .getfield 113, 3) rfl) ?_
            refine mx_lcmp (pc := 50) (mx_dd dd_X12_isCommand_0 28 (50, .lcmp, 1) rfl) ?_
            refine mx_if_eq (pc := 51) 108 (mx_dd dd_X12_isCommand_0 29 (51, .ifCond .eq 57, 3) rfl) rfl (fun c51 => ?_) (fun c51 => ?_)
            · have P := P.1 c51
              refine mx_sel [] rfl ?_
              exact P
            · have P := P.2 c51
              refine mx_lload_n (pc := 54) 1 (mx_dd dd_X12_isCommand_0 30 (54, .lload_n 1, 1) rfl) rfl rfl ?_
              refine mx_aload_n (pc := 55) 0 (mx_dd dd_X12_isCommand_0 31 (55, .aload_n 0, 1) rfl) rfl rfl ?_
              refine mx_getL (pc := 56) mx_fl_X12_116 g1 rfl (mx_dd dd_X12_isCommand_0 32 (56, .getfield 116, 3) rfl) ?_
              refine mx_lcmp (pc := 59) (mx_dd dd_X12_isCommand_0 33 (59, .lcmp, 1) rfl) ?_
              refine mx_if_eq (pc := 60) 108 (mx_dd dd_X12_isCommand_0 34 (60, .ifCond .eq 48, 3) rfl) rfl (fun c60 => ?_) (fun c60 => ?_)
              · have P := P.1 c60
                refine mx_sel [] rfl ?_
                exact P
              · have P := P.2 c60
                refine mx_lload_n (pc := 63) 1 (mx_dd dd_X12_isCommand_0 35 (63, .lload_n 1, 1) rfl) rfl rfl ?_
                refine mx_aload_n (pc := 64) 0 (mx_dd dd_X12_isCommand_0 36 (64, .aload_n 0, 1) rfl) rfl rfl ?_
                refine mx_getL (pc := 65) mx_fl_X12_119 g1 rfl (mx_dd dd_X12_isCommand_0 37 (65, .getfield 119, 3) rfl) ?_
                refine mx_lcmp (pc := 68) (mx_dd dd_X12_isCommand_0 38 (68, .lcmp, 1) rfl) ?_
                refine mx_if_eq (pc := 69) 108 (mx_dd dd_X12_isCommand_0 39 (69, .ifCond .eq 39, 3) rfl) rfl (fun c69 => ?_) (fun c69 => ?_)
                · have P := P.1 c69
                  refine mx_sel [] rfl ?_
                  exact P
                · have P := P.2 c69
                  refine mx_lload_n (pc := 72) 1 (mx_dd dd_X12_isCommand_1 0 (72, .lload_n 1, 1) rfl) rfl rfl ?_
                  refine mx_aload_n (pc := 73) 0 (mx_dd dd_X12_isCommand_1 1 (73, .aload_n 0, 1) rfl) rfl rfl ?_
                  refine mx_getL (pc := 74) mx_fl_X12_122 g1 rfl (mx_dd dd_X12_isCommand_1 2 (74, .getfield 122, 3) rfl) ?_
                  refine mx_lcmp (pc := 77) (mx_dd dd_X12_isCommand_1 3 (77, .lcmp, 1) rfl) ?_
                  refine mx_if_eq (pc := 78) 108 (mx_dd dd_X12_isCommand_1 4 (78, .ifCond .eq 30, 3) rfl) rfl (fun c78 => ?_) (fun c78 => ?_)
                  · have P := P.1 c78
                    refine mx_sel [] rfl ?_
                    exact P
                  · have P := P.2 c78
                    refine mx_lload_n (pc := 81) 1 (mx_dd dd_X12_isCommand_1 5 (81, .lload_n 1, 1) rfl) rfl rfl ?_
                    refine mx_aload_n (pc := 82) 0 (mx_dd dd_X12_isCommand_1 6 (82, .aload_n 0, 1) rfl) rfl rfl ?_
                    refine mx_getL (pc := 83) mx_fl_X12_125 g1 rfl (mx_dd dd_X12_isCommand_1 7 (83, .getfield 125, 3) rfl) ?_
                    refine mx_lcmp (pc := 86) (mx_dd dd_X12_isCommand_1 8 (86, .lcmp, 1) rfl) ?_
                    refine mx_if_eq (pc := 87) 108 (mx_dd dd_X12_isCommand_1 9 (87, .ifCond .eq 21, 3) rfl) rfl (fun c87 => ?_) (fun c87 => ?_)
                    · have P := P.1 c87
                      refine mx_sel [] rfl ?_
                      exact P
                    · have P := P.2 c87
                      refine mx_lload_n (pc := 90) 1 (mx_dd dd_X12_isCommand_1 10 (90, .lload_n 1, 1) rfl) rfl rfl ?_
                      refine mx_aload_n (pc := 91) 0 (mx_dd dd_X12_isCommand_1 11 (91, .aload_n 0, 1) rfl) rfl rfl ?_
                      refine mx_getL (pc := 92) mx_fl_X12_128 g1 rfl (mx_dd dd_X12_isCommand_1 12 (92, .getfield 128, 3) rfl) ?_
                      refine mx_lcmp (pc := 95) (mx_dd dd_X12_isCommand_1 13 (95, .lcmp, 1) rfl) ?_
                      refine mx_if_eq (pc := 96) 108 (mx_dd dd_X12_isCommand_1 14 (96, .ifCond .eq 12, 3) rfl) rfl (fun c96 => ?_) (fun c96 => ?_)
                      · have P := P.1 c96
                        refine mx_sel [] rfl ?_
                        exact P
                      · have P := P.2 c96
                        refine mx_lload_n (pc := 99) 1 (mx_dd dd_X12_isCommand_1 15 (99, .lload_n 1, 1) rfl) rfl rfl ?_
                        refine mx_aload_n (pc := 100) 0 (mx_dd dd_X12_isCommand_1 16 (100, .aload_n 0, 1) rfl) rfl rfl ?_
                        refine mx_getL (pc := 101) mx_fl_X12_131 g1 rfl (mx_dd dd_X12_isCommand_1 17 (101, .getfield 131, 3) rfl) ?_
                        refine mx_lcmp (pc := 104) (mx_dd dd_X12_isCommand_1 18 (104, .lcmp, 1) rfl) ?_
                        refine mx_if_ne (pc := 105) 112 (mx_dd dd_X12_isCommand_1 19 (105, .ifCond .ne 7, 3) rfl) rfl (fun c105 => ?_) (fun c105 => ?_)
                        · have P := P.1 c105
                          refine mx_iconst (pc := 112) (v := (0 : Int32)) (mx_dd dd_X12_isCommand_1 22 (112, .iconst 0, 1) rfl) (by decide) ?_
                          exact mx_ireturn (pc := 113) (mx_dd dd_X12_isCommand_1 23 (113, .ireturn, 1) rfl) rfl rfl P
                        · have P := P.2 c105
                          refine mx_sel [] rfl ?_
                          exact P
theorem b_X12_isCommand_108 {d : Nat} {h : mxH} {Q : mxRes → mxH → Prop} 
    (P : Q (.inl (some (.int (1 : Int32)))) h) : mx_SX mY_X12_isCommand d 108 [] [] h Q := by
  refine mx_iconst (pc := 108) (v := (1 : Int32)) (mx_dd dd_X12_isCommand_1 20 (108, .iconst 1, 1) rfl) (by decide) ?_
  refine mx_goto (pc := 109) 113 (mx_dd dd_X12_isCommand_1 21 (109, .goto 4, 3) rfl) rfl ?_
  exact mx_ireturn (pc := 113) (mx_dd dd_X12_isCommand_1 23 (113, .ireturn, 1) rfl) rfl rfl P
theorem b_X12_node {d : Nat} {h : mxH} {Q : mxRes → mxH → Prop} (x0 : Nat) (x1 : Int32)
    (P : hpK h x0 = 12 ∧ ∀ h1 : mxH, h1 = hsI h x0 49 ((hpI h x0 49) + (1 : Int32)) → ∃ b1 : Nat, hpR h1 x0 41 = some b1 ∧ hpK h1 b1 = 14 ∧ vp_in (hpI h x0 49) (hpZ h1 b1) ∧ ∀ h2 : mxH, h2 = hsI h1 b1 (hpI h x0 49).toNatClampNeg x1 → ∃ b2 : Nat, hpR h2 x0 42 = some b2 ∧ hpK h2 b2 = 14 ∧ vp_in (hpI h x0 49) (hpZ h2 b2) ∧ ∀ h3 : mxH, h3 = hsI h2 b2 (hpI h x0 49).toNatClampNeg (-1 : Int32) → ∃ b3 : Nat, hpR h3 x0 43 = some b3 ∧ hpK h3 b3 = 14 ∧ vp_in (hpI h x0 49) (hpZ h3 b3) ∧ ∀ h4 : mxH, h4 = hsI h3 b3 (hpI h x0 49).toNatClampNeg (-1 : Int32) → ∃ b4 : Nat, hpR h4 x0 44 = some b4 ∧ hpK h4 b4 = 14 ∧ vp_in (hpI h x0 49) (hpZ h4 b4) ∧ ∀ h5 : mxH, h5 = hsI h4 b4 (hpI h x0 49).toNatClampNeg (-1 : Int32) → ∃ b5 : Nat, hpR h5 x0 45 = some b5 ∧ hpK h5 b5 = 14 ∧ vp_in (hpI h x0 49) (hpZ h5 b5) ∧ ∀ h6 : mxH, h6 = hsI h5 b5 (hpI h x0 49).toNatClampNeg (-1 : Int32) → ∃ b6 : Nat, hpR h6 x0 46 = some b6 ∧ hpK h6 b6 = 14 ∧ vp_in (hpI h x0 49) (hpZ h6 b6) ∧ ∀ h7 : mxH, h7 = hsI h6 b6 (hpI h x0 49).toNatClampNeg (-1 : Int32) → ∃ b7 : Nat, hpR h7 x0 47 = some b7 ∧ hpK h7 b7 = 14 ∧ vp_in (hpI h x0 49) (hpZ h7 b7) ∧ ∀ h8 : mxH, h8 = hsI h7 b7 (hpI h x0 49).toNatClampNeg (hpI h7 x0 6) → ∃ b8 : Nat, hpR h8 x0 48 = some b8 ∧ hpK h8 b8 = 15 ∧ vp_in (hpI h x0 49) (hpZ h8 b8) ∧ ∀ h9 : mxH, h9 = hsL h8 b8 (hpI h x0 49).toNatClampNeg (0 : Int64) → Q (.inl (some (.int (hpI h x0 49)))) h9) : mx_SM mY_X12_node d [.ref x0, .int x1] h Q := by
  refine mx_SM_of (by decide) (Nat.le_of_ble_eq_true rfl) ?_
  show mx_SX mY_X12_node d 0 [(0, .ref x0), (1, .int x1)] [] h Q
  refine mx_aload_n (pc := 0) 0 (mx_dd dd_X12_node 0 (0, .aload_n 0, 1) rfl) rfl rfl ?_
  obtain ⟨g1, P⟩ := P
  refine mx_getI (pc := 1) mx_fl_X12_134 g1 rfl (mx_dd dd_X12_node 1 (1, .getfield 134, 3) rfl) ?_
  refine mx_istore_n (pc := 4) (mx_dd dd_X12_node 2 (4, .istore_n 2, 1) rfl) rfl (by decide) (lv' := [(2, _), (0, _), (1, _)]) rfl ?_
  refine mx_aload_n (pc := 5) 1 (mx_dd dd_X12_node 3 (5, .aload_n 0, 1) rfl) rfl rfl ?_
  refine mx_dup (pc := 6) (mx_dd dd_X12_node 4 (6, .dup, 1) rfl) rfl ?_
  refine mx_getI (pc := 7) mx_fl_X12_134 g1 rfl (mx_dd dd_X12_node 5 (7, .getfield 134, 3) rfl) ?_
  refine mx_iconst (pc := 10) (v := (1 : Int32)) (mx_dd dd_X12_node 6 (10, .iconst 1, 1) rfl) (by decide) ?_
  refine mx_iadd (pc := 11) (mx_dd dd_X12_node 7 (11, .iadd, 1) rfl) ?_
  refine mx_putI (pc := 12) mx_fl_X12_134 g1 rfl (.inl rfl) rfl rfl (mx_dd dd_X12_node 8 (12, .putfield 134, 3) rfl) ?_
  have P := P _ rfl
  refine mx_aload_n (pc := 15) 1 (mx_dd dd_X12_node 9 (15, .aload_n 0, 1) rfl) rfl rfl ?_
  obtain ⟨b1, g2, P⟩ := P
  refine mx_getR (pc := 16) mx_fl_X12_137 g1 rfl g2 (mx_dd dd_X12_node 10 (16, .getfield 137, 3) rfl) ?_
  refine mx_iload_n (pc := 19) 0 (mx_dd dd_X12_node 11 (19, .iload_n 2, 1) rfl) rfl rfl ?_
  refine mx_iload_n (pc := 20) 2 (mx_dd dd_X12_node 12 (20, .iload_n 1, 1) rfl) rfl rfl ?_
  obtain ⟨g3, P⟩ := P
  obtain ⟨g4, P⟩ := P
  refine mx_iast (pc := 21) g3 g4 (mx_dd dd_X12_node 13 (21, .iastore, 1) rfl) ?_
  have P := P _ rfl
  refine mx_aload_n (pc := 22) 1 (mx_dd dd_X12_node 14 (22, .aload_n 0, 1) rfl) rfl rfl ?_
  obtain ⟨b2, g5, P⟩ := P
  refine mx_getR (pc := 23) mx_fl_X12_140 g1 rfl g5 (mx_dd dd_X12_node 15 (23, .getfield 140, 3) rfl) ?_
  refine mx_iload_n (pc := 26) 0 (mx_dd dd_X12_node 16 (26, .iload_n 2, 1) rfl) rfl rfl ?_
  refine mx_iconst (pc := 27) (v := (-1 : Int32)) (mx_dd dd_X12_node 17 (27, .iconst (-1), 1) rfl) (by decide) ?_
  obtain ⟨g6, P⟩ := P
  obtain ⟨g7, P⟩ := P
  refine mx_iast (pc := 28) g6 g7 (mx_dd dd_X12_node 18 (28, .iastore, 1) rfl) ?_
  have P := P _ rfl
  refine mx_aload_n (pc := 29) 1 (mx_dd dd_X12_node 19 (29, .aload_n 0, 1) rfl) rfl rfl ?_
  obtain ⟨b3, g8, P⟩ := P
  refine mx_getR (pc := 30) mx_fl_X12_143 g1 rfl g8 (mx_dd dd_X12_node 20 (30, .getfield 143, 3) rfl) ?_
  refine mx_iload_n (pc := 33) 0 (mx_dd dd_X12_node 21 (33, .iload_n 2, 1) rfl) rfl rfl ?_
  refine mx_iconst (pc := 34) (v := (-1 : Int32)) (mx_dd dd_X12_node 22 (34, .iconst (-1), 1) rfl) (by decide) ?_
  obtain ⟨g9, P⟩ := P
  obtain ⟨g10, P⟩ := P
  refine mx_iast (pc := 35) g9 g10 (mx_dd dd_X12_node 23 (35, .iastore, 1) rfl) ?_
  have P := P _ rfl
  refine mx_aload_n (pc := 36) 1 (mx_dd dd_X12_node 24 (36, .aload_n 0, 1) rfl) rfl rfl ?_
  obtain ⟨b4, g11, P⟩ := P
  refine mx_getR (pc := 37) mx_fl_X12_146 g1 rfl g11 (mx_dd dd_X12_node 25 (37, .getfield 146, 3) rfl) ?_
  refine mx_iload_n (pc := 40) 0 (mx_dd dd_X12_node 26 (40, .iload_n 2, 1) rfl) rfl rfl ?_
  refine mx_iconst (pc := 41) (v := (-1 : Int32)) (mx_dd dd_X12_node 27 (41, .iconst (-1), 1) rfl) (by decide) ?_
  obtain ⟨g12, P⟩ := P
  obtain ⟨g13, P⟩ := P
  refine mx_iast (pc := 42) g12 g13 (mx_dd dd_X12_node 28 (42, .iastore, 1) rfl) ?_
  have P := P _ rfl
  refine mx_aload_n (pc := 43) 1 (mx_dd dd_X12_node 29 (43, .aload_n 0, 1) rfl) rfl rfl ?_
  obtain ⟨b5, g14, P⟩ := P
  refine mx_getR (pc := 44) mx_fl_X12_149 g1 rfl g14 (mx_dd dd_X12_node 30 (44, .getfield 149, 3) rfl) ?_
  refine mx_iload_n (pc := 47) 0 (mx_dd dd_X12_node 31 (47, .iload_n 2, 1) rfl) rfl rfl ?_
  refine mx_iconst (pc := 48) (v := (-1 : Int32)) (mx_dd dd_X12_node 32 (48, .iconst (-1), 1) rfl) (by decide) ?_
  obtain ⟨g15, P⟩ := P
  obtain ⟨g16, P⟩ := P
  refine mx_iast (pc := 49) g15 g16 (mx_dd dd_X12_node 33 (49, .iastore, 1) rfl) ?_
  have P := P _ rfl
  refine mx_aload_n (pc := 50) 1 (mx_dd dd_X12_node 34 (50, .aload_n 0, 1) rfl) rfl rfl ?_
  obtain ⟨b6, g17, P⟩ := P
  refine mx_getR (pc := 51) mx_fl_X12_152 g1 rfl g17 (mx_dd dd_X12_node 35 (51, .getfield 152, 3) rfl) ?_
  refine mx_iload_n (pc := 54) 0 (mx_dd dd_X12_node 36 (54, .iload_n 2, 1) rfl) rfl rfl ?_
  refine mx_iconst (pc := 55) (v := (-1 : Int32)) (mx_dd dd_X12_node 37 (55, .iconst (-1), 1) rfl) (by decide) ?_
  obtain ⟨g18, P⟩ := P
  obtain ⟨g19, P⟩ := P
  refine mx_iast (pc := 56) g18 g19 (mx_dd dd_X12_node 38 (56, .iastore, 1) rfl) ?_
  have P := P _ rfl
  refine mx_aload_n (pc := 57) 1 (mx_dd dd_X12_node 39 (57, .aload_n 0, 1) rfl) rfl rfl ?_
  obtain ⟨b7, g20, P⟩ := P
  refine mx_getR (pc := 58) mx_fl_X12_155 g1 rfl g20 (mx_dd dd_X12_node 40 (58, .getfield 155, 3) rfl) ?_
  refine mx_iload_n (pc := 61) 0 (mx_dd dd_X12_node 41 (61, .iload_n 2, 1) rfl) rfl rfl ?_
  refine mx_aload_n (pc := 62) 1 (mx_dd dd_X12_node 42 (62, .aload_n 0, 1) rfl) rfl rfl ?_
  refine mx_getI (pc := 63) mx_fl_X12_30 g1 rfl (mx_dd dd_X12_node 43 (63, .getfield 30, 3) rfl) ?_
  obtain ⟨g21, P⟩ := P
  obtain ⟨g22, P⟩ := P
  refine mx_iast (pc := 66) g21 g22 (mx_dd dd_X12_node 44 (66, .iastore, 1) rfl) ?_
  have P := P _ rfl
  refine mx_aload_n (pc := 67) 1 (mx_dd dd_X12_node 45 (67, .aload_n 0, 1) rfl) rfl rfl ?_
  obtain ⟨b8, g23, P⟩ := P
  refine mx_getR (pc := 68) mx_fl_X12_158 g1 rfl g23 (mx_dd dd_X12_node 46 (68, .getfield 158, 3) rfl) ?_
  refine mx_iload_n (pc := 71) 0 (mx_dd dd_X12_node 47 (71, .iload_n 2, 1) rfl) rfl rfl ?_
  refine mx_lconst (pc := 72) (v := (0 : Int64)) (mx_dd dd_X12_node 48 (72, .lconst 0, 1) rfl) (by decide) ?_
  obtain ⟨g24, P⟩ := P
  obtain ⟨g25, P⟩ := P
  refine mx_last (pc := 73) g24 g25 (mx_dd dd_X12_node 49 (73, .lastore, 1) rfl) ?_
  have P := P _ rfl
  refine mx_iload_n (pc := 74) 0 (mx_dd dd_X12_node 50 (74, .iload_n 2, 1) rfl) rfl rfl ?_
  exact mx_ireturn (pc := 75) (mx_dd dd_X12_node 51 (75, .ireturn, 1) rfl) rfl rfl P
theorem b_X12_startsChain {d : Nat} {h : mxH} {Q : mxRes → mxH → Prop} (x0 : Nat)
    (P : 1 ≤ d ∧ hpK h x0 = 12 ∧ mx_SM mY_X12_hasFailed (d - 1) [.ref x0] h (mx_KI (fun v1 h1 => ((v1 = 0 → hpK h1 x0 = 12 ∧ (((hpI h1 x0 7) = (33 : Int32) → Q (.inl (some (.int (1 : Int32)))) h1) ∧ (¬ (hpI h1 x0 7) = (33 : Int32) → (((hpI h1 x0 7) = (40 : Int32) → Q (.inl (some (.int (1 : Int32)))) h1) ∧ (¬ (hpI h1 x0 7) = (40 : Int32) → ((¬ (hpI h1 x0 7) = (123 : Int32) → ((¬ (hpI h1 x0 7) = (1 : Int32) → Q (.inl (some (.int (0 : Int32)))) h1) ∧ ((hpI h1 x0 7) = (1 : Int32) → mx_SM mY_X12_isWord (d - 1) [.ref x0, .ref (3 + 8)] h1 (mx_KI (fun v2 h2 => ((¬ v2 = 0 → Q (.inl (some (.int (0 : Int32)))) h2) ∧ (v2 = 0 → hpK h2 x0 = 12 ∧ mx_SM mY_X12_isWord (d - 1) [.ref x0, .ref (3 + 9)] h2 (mx_KI (fun v3 h3 => ((¬ v3 = 0 → Q (.inl (some (.int (0 : Int32)))) h3) ∧ (v3 = 0 → hpK h3 x0 = 12 ∧ mx_SM mY_X12_isWord (d - 1) [.ref x0, .ref (3 + 10)] h3 (mx_KI (fun v4 h4 => ((¬ v4 = 0 → Q (.inl (some (.int (0 : Int32)))) h4) ∧ (v4 = 0 → hpK h4 x0 = 12 ∧ mx_SM mY_X12_isWord (d - 1) [.ref x0, .ref (3 + 11)] h4 (mx_KI (fun v5 h5 => ((¬ v5 = 0 → Q (.inl (some (.int (0 : Int32)))) h5) ∧ (v5 = 0 → hpK h5 x0 = 12 ∧ mx_SM mY_X12_isWord (d - 1) [.ref x0, .ref (3 + 12)] h5 (mx_KI (fun v6 h6 => ((¬ v6 = 0 → Q (.inl (some (.int (0 : Int32)))) h6) ∧ (v6 = 0 → Q (.inl (some (.int (1 : Int32)))) h6))) (mx_XX mY_X12_startsChain Q))))) (mx_XX mY_X12_startsChain Q))))) (mx_XX mY_X12_startsChain Q))))) (mx_XX mY_X12_startsChain Q))))) (mx_XX mY_X12_startsChain Q))))) ∧ ((hpI h1 x0 7) = (123 : Int32) → Q (.inl (some (.int (1 : Int32)))) h1))))))) ∧ (¬ v1 = 0 → Q (.inl (some (.int (0 : Int32)))) h1))) (mx_XX mY_X12_startsChain Q))) : mx_SM mY_X12_startsChain d [.ref x0] h Q := by
  refine mx_SM_of (by decide) (Nat.le_of_ble_eq_true rfl) ?_
  show mx_SX mY_X12_startsChain d 0 [(0, .ref x0)] [] h Q
  refine mx_aload_n (pc := 0) 0 (mx_dd dd_X12_startsChain 0 (0, .aload_n 0, 1) rfl) rfl rfl ?_
  obtain ⟨g1, P⟩ := P
  obtain ⟨g2, P⟩ := P
  refine mx_cVI (pc := 1) (Y := mY_X12_hasFailed) (As := []) mx_ml_X12_53 mx_y_X12_hasFailed rfl g2 (by decide) rfl (by decide) rfl (mx_dd dd_X12_startsChain 1 (1, .invokevirtual 53, 3) rfl) g1 (by decide) P (fun v1 h1 P => ?_)
  refine mx_if_eq (pc := 4) 9 (mx_dd dd_X12_startsChain 2 (4, .ifCond .eq 5, 3) rfl) rfl (fun c4 => ?_) (fun c4 => ?_)
  · have P := P.1 c4
    refine mx_aload_n (pc := 9) 0 (mx_dd dd_X12_startsChain 5 (9, .aload_n 0, 1) rfl) rfl rfl ?_
    obtain ⟨g3, P⟩ := P
    refine mx_getI (pc := 10) mx_fl_X12_40 g3 rfl (mx_dd dd_X12_startsChain 6 (10, .getfield 40, 3) rfl) ?_
    refine mx_bipush (pc := 13) (v := (33 : Int32)) (mx_dd dd_X12_startsChain 7 (13, .bipush 33, 2) rfl) (by decide) ?_
    refine mx_icmp_eq (pc := 15) 36 (mx_dd dd_X12_startsChain 8 (15, .if_icmp .eq 21, 3) rfl) rfl (fun c15 => ?_) (fun c15 => ?_)
    · have P := P.1 c15
      refine mx_iconst (pc := 36) (v := (1 : Int32)) (mx_dd dd_X12_startsChain 17 (36, .iconst 1, 1) rfl) (by decide) ?_
      exact mx_ireturn (pc := 37) (mx_dd dd_X12_startsChain 18 (37, .ireturn, 1) rfl) rfl rfl P
    · have P := P.2 c15
      refine mx_aload_n (pc := 18) 0 (mx_dd dd_X12_startsChain 9 (18, .aload_n 0, 1) rfl) rfl rfl ?_
      refine mx_getI (pc := 19) mx_fl_X12_40 g3 rfl (mx_dd dd_X12_startsChain 10 (19, .getfield 40, 3) rfl) ?_
      refine mx_bipush (pc := 22) (v := (40 : Int32)) (mx_dd dd_X12_startsChain 11 (22, .bipush 40, 2) rfl) (by decide) ?_
      refine mx_icmp_eq (pc := 24) 36 (mx_dd dd_X12_startsChain 12 (24, .if_icmp .eq 12, 3) rfl) rfl (fun c24 => ?_) (fun c24 => ?_)
      · have P := P.1 c24
        refine mx_iconst (pc := 36) (v := (1 : Int32)) (mx_dd dd_X12_startsChain 17 (36, .iconst 1, 1) rfl) (by decide) ?_
        exact mx_ireturn (pc := 37) (mx_dd dd_X12_startsChain 18 (37, .ireturn, 1) rfl) rfl rfl P
      · have P := P.2 c24
        refine mx_aload_n (pc := 27) 0 (mx_dd dd_X12_startsChain 13 (27, .aload_n 0, 1) rfl) rfl rfl ?_
        refine mx_getI (pc := 28) mx_fl_X12_40 g3 rfl (mx_dd dd_X12_startsChain 14 (28, .getfield 40, 3) rfl) ?_
        refine mx_bipush (pc := 31) (v := (123 : Int32)) (mx_dd dd_X12_startsChain 15 (31, .bipush 123, 2) rfl) (by decide) ?_
        refine mx_icmp_ne (pc := 33) 38 (mx_dd dd_X12_startsChain 16 (33, .if_icmp .ne 5, 3) rfl) rfl (fun c33 => ?_) (fun c33 => ?_)
        · have P := P.1 c33
          refine mx_aload_n (pc := 38) 0 (mx_dd dd_X12_startsChain 19 (38, .aload_n 0, 1) rfl) rfl rfl ?_
          refine mx_getI (pc := 39) mx_fl_X12_40 g3 rfl (mx_dd dd_X12_startsChain 20 (39, .getfield 40, 3) rfl) ?_
          refine mx_iconst (pc := 42) (v := (1 : Int32)) (mx_dd dd_X12_startsChain 21 (42, .iconst 1, 1) rfl) (by decide) ?_
          refine mx_icmp_ne (pc := 43) 95 (mx_dd dd_X12_startsChain 22 (43, .if_icmp .ne 52, 3) rfl) rfl (fun c43 => ?_) (fun c43 => ?_)
          · have P := P.1 c43
            refine mx_iconst (pc := 95) (v := (0 : Int32)) (mx_dd dd_X12_startsChain 45 (95, .iconst 0, 1) rfl) (by decide) ?_
            exact mx_ireturn (pc := 96) (mx_dd dd_X12_startsChain 46 (96, .ireturn, 1) rfl) rfl rfl P
          · have P := P.2 c43
            refine mx_aload_n (pc := 46) 0 (mx_dd dd_X12_startsChain 23 (46, .aload_n 0, 1) rfl) rfl rfl ?_
            refine mx_ldcS (pc := 47) (i := 8) rfl (by decide) (mx_dd dd_X12_startsChain 24 (47, .ldc 162, 2) rfl) ?_
            refine mx_cVI (pc := 49) (Y := mY_X12_isWord) (As := [.ref _]) mx_ml_X12_74 mx_y_X12_isWord rfl g3 (by decide) rfl (by decide) rfl (mx_dd dd_X12_startsChain 25 (49, .invokevirtual 74, 3) rfl) g1 (by decide) P (fun v2 h2 P => ?_)
            refine mx_if_ne (pc := 52) 95 (mx_dd dd_X12_startsChain 26 (52, .ifCond .ne 43, 3) rfl) rfl (fun c52 => ?_) (fun c52 => ?_)
            · have P := P.1 c52
              refine mx_iconst (pc := 95) (v := (0 : Int32)) (mx_dd dd_X12_startsChain 45 (95, .iconst 0, 1) rfl) (by decide) ?_
              exact mx_ireturn (pc := 96) (mx_dd dd_X12_startsChain 46 (96, .ireturn, 1) rfl) rfl rfl P
            · have P := P.2 c52
              refine mx_aload_n (pc := 55) 0 (mx_dd dd_X12_startsChain 27 (55, .aload_n 0, 1) rfl) rfl rfl ?_
              refine mx_ldcS (pc := 56) (i := 9) rfl (by decide) (mx_dd dd_X12_startsChain 28 (56, .ldc 164, 2) rfl) ?_
              obtain ⟨g4, P⟩ := P
              refine mx_cVI (pc := 58) (Y := mY_X12_isWord) (As := [.ref _]) mx_ml_X12_74 mx_y_X12_isWord rfl g4 (by decide) rfl (by decide) rfl (mx_dd dd_X12_startsChain 29 (58, .invokevirtual 74, 3) rfl) g1 (by decide) P (fun v3 h3 P => ?_)
              refine mx_if_ne (pc := 61) 95 (mx_dd dd_X12_startsChain 30 (61, .ifCond .ne 34, 3) rfl) rfl (fun c61 => ?_) (fun c61 => ?_)
              · have P := P.1 c61
                refine mx_iconst (pc := 95) (v := (0 : Int32)) (mx_dd dd_X12_startsChain 45 (95, .iconst 0, 1) rfl) (by decide) ?_
                exact mx_ireturn (pc := 96) (mx_dd dd_X12_startsChain 46 (96, .ireturn, 1) rfl) rfl rfl P
              · have P := P.2 c61
                refine mx_aload_n (pc := 64) 0 (mx_dd dd_X12_startsChain 31 (64, .aload_n 0, 1) rfl) rfl rfl ?_
                refine mx_ldcS (pc := 65) (i := 10) rfl (by decide) (mx_dd dd_X12_startsChain 32 (65, .ldc 166, 2) rfl) ?_
                obtain ⟨g5, P⟩ := P
                refine mx_cVI (pc := 67) (Y := mY_X12_isWord) (As := [.ref _]) mx_ml_X12_74 mx_y_X12_isWord rfl g5 (by decide) rfl (by decide) rfl (mx_dd dd_X12_startsChain 33 (67, .invokevirtual 74, 3) rfl) g1 (by decide) P (fun v4 h4 P => ?_)
                refine mx_if_ne (pc := 70) 95 (mx_dd dd_X12_startsChain 34 (70, .ifCond .ne 25, 3) rfl) rfl (fun c70 => ?_) (fun c70 => ?_)
                · have P := P.1 c70
                  refine mx_iconst (pc := 95) (v := (0 : Int32)) (mx_dd dd_X12_startsChain 45 (95, .iconst 0, 1) rfl) (by decide) ?_
                  exact mx_ireturn (pc := 96) (mx_dd dd_X12_startsChain 46 (96, .ireturn, 1) rfl) rfl rfl P
                · have P := P.2 c70
                  refine mx_aload_n (pc := 73) 0 (mx_dd dd_X12_startsChain 35 (73, .aload_n 0, 1) rfl) rfl rfl ?_
                  refine mx_ldcS (pc := 74) (i := 11) rfl (by decide) (mx_dd dd_X12_startsChain 36 (74, .ldc 168, 2) rfl) ?_
                  obtain ⟨g6, P⟩ := P
                  refine mx_cVI (pc := 76) (Y := mY_X12_isWord) (As := [.ref _]) mx_ml_X12_74 mx_y_X12_isWord rfl g6 (by decide) rfl (by decide) rfl (mx_dd dd_X12_startsChain 37 (76, .invokevirtual 74, 3) rfl) g1 (by decide) P (fun v5 h5 P => ?_)
                  refine mx_if_ne (pc := 79) 95 (mx_dd dd_X12_startsChain 38 (79, .ifCond .ne 16, 3) rfl) rfl (fun c79 => ?_) (fun c79 => ?_)
                  · have P := P.1 c79
                    refine mx_iconst (pc := 95) (v := (0 : Int32)) (mx_dd dd_X12_startsChain 45 (95, .iconst 0, 1) rfl) (by decide) ?_
                    exact mx_ireturn (pc := 96) (mx_dd dd_X12_startsChain 46 (96, .ireturn, 1) rfl) rfl rfl P
                  · have P := P.2 c79
                    refine mx_aload_n (pc := 82) 0 (mx_dd dd_X12_startsChain 39 (82, .aload_n 0, 1) rfl) rfl rfl ?_
                    refine mx_ldcS (pc := 83) (i := 12) rfl (by decide) (mx_dd dd_X12_startsChain 40 (83, .ldc 170, 2) rfl) ?_
                    obtain ⟨g7, P⟩ := P
                    refine mx_cVI (pc := 85) (Y := mY_X12_isWord) (As := [.ref _]) mx_ml_X12_74 mx_y_X12_isWord rfl g7 (by decide) rfl (by decide) rfl (mx_dd dd_X12_startsChain 41 (85, .invokevirtual 74, 3) rfl) g1 (by decide) P (fun v6 h6 P => ?_)
                    refine mx_if_ne (pc := 88) 95 (mx_dd dd_X12_startsChain 42 (88, .ifCond .ne 7, 3) rfl) rfl (fun c88 => ?_) (fun c88 => ?_)
                    · have P := P.1 c88
                      refine mx_iconst (pc := 95) (v := (0 : Int32)) (mx_dd dd_X12_startsChain 45 (95, .iconst 0, 1) rfl) (by decide) ?_
                      exact mx_ireturn (pc := 96) (mx_dd dd_X12_startsChain 46 (96, .ireturn, 1) rfl) rfl rfl P
                    · have P := P.2 c88
                      refine mx_iconst (pc := 91) (v := (1 : Int32)) (mx_dd dd_X12_startsChain 43 (91, .iconst 1, 1) rfl) (by decide) ?_
                      refine mx_goto (pc := 92) 96 (mx_dd dd_X12_startsChain 44 (92, .goto 4, 3) rfl) rfl ?_
                      exact mx_ireturn (pc := 96) (mx_dd dd_X12_startsChain 46 (96, .ireturn, 1) rfl) rfl rfl P
        · have P := P.2 c33
          refine mx_iconst (pc := 36) (v := (1 : Int32)) (mx_dd dd_X12_startsChain 17 (36, .iconst 1, 1) rfl) (by decide) ?_
          exact mx_ireturn (pc := 37) (mx_dd dd_X12_startsChain 18 (37, .ireturn, 1) rfl) rfl rfl P
  · have P := P.2 c4
    refine mx_iconst (pc := 7) (v := (0 : Int32)) (mx_dd dd_X12_startsChain 3 (7, .iconst 0, 1) rfl) (by decide) ?_
    exact mx_ireturn (pc := 8) (mx_dd dd_X12_startsChain 4 (8, .ireturn, 1) rfl) rfl rfl P
theorem b_X12_readScript {d : Nat} {h : mxH} {Q : mxRes → mxH → Prop} (x0 : Nat) (x1 : Int32)
    (P : 1 ≤ d ∧ hpK h x0 = 12 ∧ mx_SM mY_X12_node (d - 1) [.ref x0, .int (1 : Int32)] h (mx_KI (fun v1 h1 => mx_SX mY_X12_readScript d 11 [(0, .ref x0), (1, .int x1), (2, .int v1), (3, .int (-1 : Int32)), (4, .int (0 : Int32))] [] h1 Q) (mx_XX mY_X12_readScript Q))) : mx_SM mY_X12_readScript d [.ref x0, .int x1] h Q := by
  refine mx_SM_of (by decide) (Nat.le_of_ble_eq_true rfl) ?_
  show mx_SX mY_X12_readScript d 0 [(0, .ref x0), (1, .int x1)] [] h Q
  refine mx_aload_n (pc := 0) 0 (mx_dd dd_X12_readScript 0 (0, .aload_n 0, 1) rfl) rfl rfl ?_
  refine mx_iconst (pc := 1) (v := (1 : Int32)) (mx_dd dd_X12_readScript 1 (1, .iconst 1, 1) rfl) (by decide) ?_
  obtain ⟨g1, P⟩ := P
  obtain ⟨g2, P⟩ := P
  refine mx_cVI (pc := 2) (Y := mY_X12_node) (As := [.int _]) mx_ml_X12_172 mx_y_X12_node rfl g2 (by decide) rfl (by decide) rfl (mx_dd dd_X12_readScript 2 (2, .invokevirtual 172, 3) rfl) g1 (by decide) P (fun v1 h1 P => ?_)
  refine mx_istore_n (pc := 5) (mx_dd dd_X12_readScript 3 (5, .istore_n 2, 1) rfl) rfl (by decide) (lv' := [(2, _), (0, _), (1, _)]) rfl ?_
  refine mx_iconst (pc := 6) (v := (-1 : Int32)) (mx_dd dd_X12_readScript 4 (6, .iconst (-1), 1) rfl) (by decide) ?_
  refine mx_istore_n (pc := 7) (mx_dd dd_X12_readScript 5 (7, .istore_n 3, 1) rfl) rfl (by decide) (lv' := [(3, _), (2, _), (0, _), (1, _)]) rfl ?_
  refine mx_iconst (pc := 8) (v := (0 : Int32)) (mx_dd dd_X12_readScript 6 (8, .iconst 0, 1) rfl) (by decide) ?_
  refine mx_istore (pc := 9) (mx_dd dd_X12_readScript 7 (9, .istore 4, 2) rfl) (by decide) (lv' := [(4, _), (3, _), (2, _), (0, _), (1, _)]) rfl ?_
  refine mx_sel [3, 4, 2, 1, 0] rfl ?_
  exact P
theorem b_X12_readScript_11 {d : Nat} {h : mxH} {Q : mxRes → mxH → Prop} (x0 : Nat) (x1 : Int32) (x2 : Int32) (x3 : Int32) (x4 : Int32)
    (P : 1 ≤ d ∧ hpK h x0 = 12 ∧ mx_SM mY_X12_startsChain (d - 1) [.ref x0] h (mx_KI (fun v1 h1 => ((v1 = 0 → hpK h1 x0 = 12 ∧ ∀ h2 : mxH, h2 = hsI h1 x0 51 x4 → Q (.inl (some (.int x2))) h2) ∧ (¬ v1 = 0 → hpK h1 x0 = 12 ∧ mx_SM mY_X12_readChain (d - 1) [.ref x0, .int x1] h1 (mx_KI (fun v2 h3 => ((¬ x3 = (-1 : Int32) → hpK h3 x0 = 12 ∧ ∃ b1 : Nat, hpR h3 x0 46 = some b1 ∧ hpK h3 b1 = 14 ∧ vp_in x3 (hpZ h3 b1) ∧ ∀ h4 : mxH, h4 = hsI h3 b1 x3.toNatClampNeg v2 → mx_SX mY_X12_readScript d 49 [(0, .ref x0), (1, .int x1), (2, .int x2), (4, .int x4), (5, .int v2)] [] h4 Q) ∧ (x3 = (-1 : Int32) → hpK h3 x0 = 12 ∧ ∃ b2 : Nat, hpR h3 x0 42 = some b2 ∧ hpK h3 b2 = 14 ∧ vp_in x2 (hpZ h3 b2) ∧ ∀ h5 : mxH, h5 = hsI h3 b2 x2.toNatClampNeg v2 → mx_SX mY_X12_readScript d 49 [(0, .ref x0), (1, .int x1), (2, .int x2), (4, .int x4), (5, .int v2)] [] h5 Q))) (mx_XX mY_X12_readScript Q))))) (mx_XX mY_X12_readScript Q))) : mx_SX mY_X12_readScript d 11 [(0, .ref x0), (1, .int x1), (2, .int x2), (3, .int x3), (4, .int x4)] [] h Q := by
  refine mx_aload_n (pc := 11) 0 (mx_dd dd_X12_readScript 8 (11, .aload_n 0, 1) rfl) rfl rfl ?_
  obtain ⟨g1, P⟩ := P
  obtain ⟨g2, P⟩ := P
  refine mx_cVI (pc := 12) (Y := mY_X12_startsChain) (As := []) mx_ml_X12_175 mx_y_X12_startsChain rfl g2 (by decide) rfl (by decide) rfl (mx_dd dd_X12_readScript 9 (12, .invokevirtual 175, 3) rfl) g1 (by decide) P (fun v1 h1 P => ?_)
  refine mx_if_eq (pc := 15) 94 (mx_dd dd_X12_readScript 10 (15, .ifCond .eq 79, 3) rfl) rfl (fun c15 => ?_) (fun c15 => ?_)
  · have P := P.1 c15
    refine mx_aload_n (pc := 94) 0 (mx_dd dd_X12_readScript 51 (94, .aload_n 0, 1) rfl) rfl rfl ?_
    refine mx_iload (pc := 95) 4 (mx_dd dd_X12_readScript 52 (95, .iload 4, 2) rfl) rfl ?_
    obtain ⟨g3, P⟩ := P
    refine mx_putI (pc := 97) mx_fl_X12_184 g3 rfl (.inl rfl) rfl rfl (mx_dd dd_X12_readScript 53 (97, .putfield 184, 3) rfl) ?_
    have P := P _ rfl
    refine mx_iload_n (pc := 100) 2 (mx_dd dd_X12_readScript 54 (100, .iload_n 2, 1) rfl) rfl rfl ?_
    exact mx_ireturn (pc := 101) (mx_dd dd_X12_readScript 55 (101, .ireturn, 1) rfl) rfl rfl P
  · have P := P.2 c15
    refine mx_aload_n (pc := 18) 0 (mx_dd dd_X12_readScript 11 (18, .aload_n 0, 1) rfl) rfl rfl ?_
    refine mx_iload_n (pc := 19) 1 (mx_dd dd_X12_readScript 12 (19, .iload_n 1, 1) rfl) rfl rfl ?_
    obtain ⟨g4, P⟩ := P
    refine mx_cVI (pc := 20) (Y := mY_X12_readChain) (As := [.int _]) mx_ml_X12_178 mx_y_X12_readChain rfl g4 (by decide) rfl (by decide) rfl (mx_dd dd_X12_readScript 13 (20, .invokevirtual 178, 3) rfl) g1 (by decide) P (fun v2 h3 P => ?_)
    refine mx_istore (pc := 23) (mx_dd dd_X12_readScript 14 (23, .istore 5, 2) rfl) (by decide) (lv' := [(5, _), (0, _), (1, _), (2, _), (3, _), (4, _)]) rfl ?_
    refine mx_iload_n (pc := 25) 4 (mx_dd dd_X12_readScript 15 (25, .iload_n 3, 1) rfl) rfl rfl ?_
    refine mx_iconst (pc := 26) (v := (-1 : Int32)) (mx_dd dd_X12_readScript 16 (26, .iconst (-1), 1) rfl) (by decide) ?_
    refine mx_icmp_ne (pc := 27) 41 (mx_dd dd_X12_readScript 17 (27, .if_icmp .ne 14, 3) rfl) rfl (fun c27 => ?_) (fun c27 => ?_)
    · have P := P.1 c27
      refine mx_aload_n (pc := 41) 1 (mx_dd dd_X12_readScript 24 (41, .aload_n 0, 1) rfl) rfl rfl ?_
      obtain ⟨g5, P⟩ := P
      obtain ⟨b1, g6, P⟩ := P
      refine mx_getR (pc := 42) mx_fl_X12_152 g5 rfl g6 (mx_dd dd_X12_readScript 25 (42, .getfield 152, 3) rfl) ?_
      refine mx_iload_n (pc := 45) 4 (mx_dd dd_X12_readScript 26 (45, .iload_n 3, 1) rfl) rfl rfl ?_
      refine mx_iload (pc := 46) 0 (mx_dd dd_X12_readScript 27 (46, .iload 5, 2) rfl) rfl ?_
      obtain ⟨g7, P⟩ := P
      obtain ⟨g8, P⟩ := P
      refine mx_iast (pc := 48) g7 g8 (mx_dd dd_X12_readScript 28 (48, .iastore, 1) rfl) ?_
      have P := P _ rfl
      refine mx_sel [1, 2, 3, 5, 0] rfl ?_
      exact P
    · have P := P.2 c27
      refine mx_aload_n (pc := 30) 1 (mx_dd dd_X12_readScript 18 (30, .aload_n 0, 1) rfl) rfl rfl ?_
      obtain ⟨g9, P⟩ := P
      obtain ⟨b2, g10, P⟩ := P
      refine mx_getR (pc := 31) mx_fl_X12_140 g9 rfl g10 (mx_dd dd_X12_readScript 19 (31, .getfield 140, 3) rfl) ?_
      refine mx_iload_n (pc := 34) 3 (mx_dd dd_X12_readScript 20 (34, .iload_n 2, 1) rfl) rfl rfl ?_
      refine mx_iload (pc := 35) 0 (mx_dd dd_X12_readScript 21 (35, .iload 5, 2) rfl) rfl ?_
      obtain ⟨g11, P⟩ := P
      obtain ⟨g12, P⟩ := P
      refine mx_iast (pc := 37) g11 g12 (mx_dd dd_X12_readScript 22 (37, .iastore, 1) rfl) ?_
      have P := P _ rfl
      refine mx_goto (pc := 38) 49 (mx_dd dd_X12_readScript 23 (38, .goto 11, 3) rfl) rfl ?_
      refine mx_sel [1, 2, 3, 5, 0] rfl ?_
      exact P
theorem b_X12_readScript_49 {d : Nat} {h : mxH} {Q : mxRes → mxH → Prop} (x0 : Nat) (x1 : Int32) (x2 : Int32) (x4 : Int32) (x5 : Int32)
    (P : 1 ≤ d ∧ hpK h x0 = 12 ∧ mx_SM mY_X12_takes (d - 1) [.ref x0, .int (38 : Int32)] h (mx_KI (fun v1 h1 => hpK h1 x0 = 12 ∧ ∃ b1 : Nat, hpR h1 x0 43 = some b1 ∧ ((v1 = 0 → hpK h1 b1 = 14 ∧ vp_in x5 (hpZ h1 b1) ∧ ∀ h2 : mxH, h2 = hsI h1 b1 x5.toNatClampNeg (0 : Int32) → ((¬ v1 = 0 → mx_SX mY_X12_readScript d 91 [(0, .ref x0), (1, .int x1), (2, .int x2), (3, .int x5), (4, .int (x4 + (1 : Int32)))] [] h2 Q) ∧ (v1 = 0 → mx_SM mY_X12_needs (d - 1) [.ref x0, .int (59 : Int32)] h2 (mx_KV (fun h3 => mx_SX mY_X12_readScript d 91 [(0, .ref x0), (1, .int x1), (2, .int x2), (3, .int x5), (4, .int (x4 + (1 : Int32)))] [] h3 Q) (mx_XX mY_X12_readScript Q))))) ∧ (¬ v1 = 0 → hpK h1 b1 = 14 ∧ vp_in x5 (hpZ h1 b1) ∧ ∀ h4 : mxH, h4 = hsI h1 b1 x5.toNatClampNeg (1 : Int32) → ((¬ v1 = 0 → mx_SX mY_X12_readScript d 91 [(0, .ref x0), (1, .int x1), (2, .int x2), (3, .int x5), (4, .int (x4 + (1 : Int32)))] [] h4 Q) ∧ (v1 = 0 → mx_SM mY_X12_needs (d - 1) [.ref x0, .int (59 : Int32)] h4 (mx_KV (fun h5 => mx_SX mY_X12_readScript d 91 [(0, .ref x0), (1, .int x1), (2, .int x2), (3, .int x5), (4, .int (x4 + (1 : Int32)))] [] h5 Q) (mx_XX mY_X12_readScript Q))))))) (mx_XX mY_X12_readScript Q))) : mx_SX mY_X12_readScript d 49 [(0, .ref x0), (1, .int x1), (2, .int x2), (4, .int x4), (5, .int x5)] [] h Q := by
  refine mx_iload (pc := 49) 4 (mx_dd dd_X12_readScript 29 (49, .iload 5, 2) rfl) rfl ?_
  refine mx_istore_n (pc := 51) (mx_dd dd_X12_readScript 30 (51, .istore_n 3, 1) rfl) rfl (by decide) (lv' := [(3, _), (0, _), (1, _), (2, _), (4, _), (5, _)]) rfl ?_
  refine mx_iinc (pc := 52) 4 (mx_dd dd_X12_readScript 31 (52, .iinc 4 1, 3) rfl) rfl (mx_kadd (by decide : Int32.ofInt 1 = (1 : Int32))) (by decide) (lv' := [(4, _), (3, _), (0, _), (1, _), (2, _), (5, _)]) rfl ?_
  refine mx_aload_n (pc := 55) 2 (mx_dd dd_X12_readScript 32 (55, .aload_n 0, 1) rfl) rfl rfl ?_
  refine mx_bipush (pc := 56) (v := (38 : Int32)) (mx_dd dd_X12_readScript 33 (56, .bipush 38, 2) rfl) (by decide) ?_
  obtain ⟨g1, P⟩ := P
  obtain ⟨g2, P⟩ := P
  refine mx_cVI (pc := 58) (Y := mY_X12_takes) (As := [.int _]) mx_ml_X12_81 mx_y_X12_takes rfl g2 (by decide) rfl (by decide) rfl (mx_dd dd_X12_readScript 34 (58, .invokevirtual 81, 3) rfl) g1 (by decide) P (fun v1 h1 P => ?_)
  refine mx_istore (pc := 61) (mx_dd dd_X12_readScript 35 (61, .istore 6, 2) rfl) (by decide) (lv' := [(6, _), (4, _), (3, _), (0, _), (1, _), (2, _), (5, _)]) rfl ?_
  refine mx_aload_n (pc := 63) 3 (mx_dd dd_X12_readScript 36 (63, .aload_n 0, 1) rfl) rfl rfl ?_
  obtain ⟨g3, P⟩ := P
  obtain ⟨b1, g4, P⟩ := P
  refine mx_getR (pc := 64) mx_fl_X12_143 g3 rfl g4 (mx_dd dd_X12_readScript 37 (64, .getfield 143, 3) rfl) ?_
  refine mx_iload (pc := 67) 6 (mx_dd dd_X12_readScript 38 (67, .iload 5, 2) rfl) rfl ?_
  refine mx_iload (pc := 69) 0 (mx_dd dd_X12_readScript 39 (69, .iload 6, 2) rfl) rfl ?_
  refine mx_if_eq (pc := 71) 78 (mx_dd dd_X12_readScript 40 (71, .ifCond .eq 7, 3) rfl) rfl (fun c71 => ?_) (fun c71 => ?_)
  · have P := P.1 c71
    refine mx_iconst (pc := 78) (v := (0 : Int32)) (mx_dd dd_X12_readScript 43 (78, .iconst 0, 1) rfl) (by decide) ?_
    obtain ⟨g5, P⟩ := P
    obtain ⟨g6, P⟩ := P
    refine mx_iast (pc := 79) g5 g6 (mx_dd dd_X12_readScript 44 (79, .iastore, 1) rfl) ?_
    have P := P _ rfl
    refine mx_iload (pc := 80) 0 (mx_dd dd_X12_readScript 45 (80, .iload 6, 2) rfl) rfl ?_
    refine mx_if_ne (pc := 82) 91 (mx_dd dd_X12_readScript 46 (82, .ifCond .ne 9, 3) rfl) rfl (fun c82 => ?_) (fun c82 => ?_)
    · have P := P.1 c82
      refine mx_sel [3, 4, 5, 2, 1] rfl ?_
      exact P
    · have P := P.2 c82
      refine mx_aload_n (pc := 85) 3 (mx_dd dd_X12_readScript 47 (85, .aload_n 0, 1) rfl) rfl rfl ?_
      refine mx_bipush (pc := 86) (v := (59 : Int32)) (mx_dd dd_X12_readScript 48 (86, .bipush 59, 2) rfl) (by decide) ?_
      refine mx_cVV (pc := 88) (Y := mY_X12_needs) (As := [.int _]) mx_ml_X12_181 mx_y_X12_needs rfl g3 (by decide) rfl (by decide) rfl (mx_dd dd_X12_readScript 49 (88, .invokevirtual 181, 3) rfl) g1 (by decide) P (fun h3 P => ?_)
      refine mx_sel [3, 4, 5, 2, 1] rfl ?_
      exact P
  · have P := P.2 c71
    refine mx_iconst (pc := 74) (v := (1 : Int32)) (mx_dd dd_X12_readScript 41 (74, .iconst 1, 1) rfl) (by decide) ?_
    refine mx_goto (pc := 75) 79 (mx_dd dd_X12_readScript 42 (75, .goto 4, 3) rfl) rfl ?_
    obtain ⟨g7, P⟩ := P
    obtain ⟨g8, P⟩ := P
    refine mx_iast (pc := 79) g7 g8 (mx_dd dd_X12_readScript 44 (79, .iastore, 1) rfl) ?_
    have P := P _ rfl
    refine mx_iload (pc := 80) 0 (mx_dd dd_X12_readScript 45 (80, .iload 6, 2) rfl) rfl ?_
    refine mx_if_ne (pc := 82) 91 (mx_dd dd_X12_readScript 46 (82, .ifCond .ne 9, 3) rfl) rfl (fun c82 => ?_) (fun c82 => ?_)
    · have P := P.1 c82
      refine mx_sel [3, 4, 5, 2, 1] rfl ?_
      exact P
    · have P := P.2 c82
      refine mx_aload_n (pc := 85) 3 (mx_dd dd_X12_readScript 47 (85, .aload_n 0, 1) rfl) rfl rfl ?_
      refine mx_bipush (pc := 86) (v := (59 : Int32)) (mx_dd dd_X12_readScript 48 (86, .bipush 59, 2) rfl) (by decide) ?_
      refine mx_cVV (pc := 88) (Y := mY_X12_needs) (As := [.int _]) mx_ml_X12_181 mx_y_X12_needs rfl g3 (by decide) rfl (by decide) rfl (mx_dd dd_X12_readScript 49 (88, .invokevirtual 181, 3) rfl) g1 (by decide) P (fun h5 P => ?_)
      refine mx_sel [3, 4, 5, 2, 1] rfl ?_
      exact P
theorem b_X12_readScript_91 {d : Nat} {h : mxH} {Q : mxRes → mxH → Prop} (x0 : Nat) (x1 : Int32) (x2 : Int32) (x3 : Int32) (x4 : Int32)
    (P : mx_SX mY_X12_readScript d 11 [(0, .ref x0), (1, .int x1), (2, .int x2), (3, .int x3), (4, .int x4)] [] h Q) : mx_SX mY_X12_readScript d 91 [(0, .ref x0), (1, .int x1), (2, .int x2), (3, .int x3), (4, .int x4)] [] h Q := by
  refine mx_goto (pc := 91) 11 (mx_dd dd_X12_readScript 50 (91, .goto (-80), 3) rfl) rfl ?_
  exact P
theorem b_X12_readChain {d : Nat} {h : mxH} {Q : mxRes → mxH → Prop} (x0 : Nat) (x1 : Int32)
    (P : 1 ≤ d ∧ hpK h x0 = 12 ∧ mx_SM mY_X12_node (d - 1) [.ref x0, .int (2 : Int32)] h (mx_KI (fun v1 h1 => mx_SX mY_X12_readChain d 14 [(0, .ref x0), (1, .int x1), (2, .int v1), (3, .int (-1 : Int32)), (4, .int (0 : Int32)), (5, .int (1 : Int32))] [] h1 Q) (mx_XX mY_X12_readChain Q))) : mx_SM mY_X12_readChain d [.ref x0, .int x1] h Q := by
  refine mx_SM_of (by decide) (Nat.le_of_ble_eq_true rfl) ?_
  show mx_SX mY_X12_readChain d 0 [(0, .ref x0), (1, .int x1)] [] h Q
  refine mx_aload_n (pc := 0) 0 (mx_dd dd_X12_readChain_0 0 (0, .aload_n 0, 1) rfl) rfl rfl ?_
  refine mx_iconst (pc := 1) (v := (2 : Int32)) (mx_dd dd_X12_readChain_0 1 (1, .iconst 2, 1) rfl) (by decide) ?_
  obtain ⟨g1, P⟩ := P
  obtain ⟨g2, P⟩ := P
  refine mx_cVI (pc := 2) (Y := mY_X12_node) (As := [.int _]) mx_ml_X12_172 mx_y_X12_node rfl g2 (by decide) rfl (by decide) rfl (mx_dd dd_X12_readChain_0 2 (2, .invokevirtual 172, 3) rfl) g1 (by decide) P (fun v1 h1 P => ?_)
  refine mx_istore_n (pc := 5) (mx_dd dd_X12_readChain_0 3 (5, .istore_n 2, 1) rfl) rfl (by decide) (lv' := [(2, _), (0, _), (1, _)]) rfl ?_
  refine mx_iconst (pc := 6) (v := (-1 : Int32)) (mx_dd dd_X12_readChain_0 4 (6, .iconst (-1), 1) rfl) (by decide) ?_
  refine mx_istore_n (pc := 7) (mx_dd dd_X12_readChain_0 5 (7, .istore_n 3, 1) rfl) rfl (by decide) (lv' := [(3, _), (2, _), (0, _), (1, _)]) rfl ?_
  refine mx_iconst (pc := 8) (v := (0 : Int32)) (mx_dd dd_X12_readChain_0 6 (8, .iconst 0, 1) rfl) (by decide) ?_
  refine mx_istore (pc := 9) (mx_dd dd_X12_readChain_0 7 (9, .istore 4, 2) rfl) (by decide) (lv' := [(4, _), (3, _), (2, _), (0, _), (1, _)]) rfl ?_
  refine mx_iconst (pc := 11) (v := (1 : Int32)) (mx_dd dd_X12_readChain_0 8 (11, .iconst 1, 1) rfl) (by decide) ?_
  refine mx_istore (pc := 12) (mx_dd dd_X12_readChain_0 9 (12, .istore 5, 2) rfl) (by decide) (lv' := [(5, _), (4, _), (3, _), (2, _), (0, _), (1, _)]) rfl ?_
  refine mx_sel [4, 5, 3, 2, 1, 0] rfl ?_
  exact P
theorem b_X12_readChain_14 {d : Nat} {h : mxH} {Q : mxRes → mxH → Prop} (x0 : Nat) (x1 : Int32) (x2 : Int32) (x3 : Int32) (x4 : Int32) (x5 : Int32)
    (P : ((x5 = 0 → Q (.inl (some (.int x2))) h) ∧ (¬ x5 = 0 → 1 ≤ d ∧ hpK h x0 = 12 ∧ mx_SM mY_X12_hasFailed (d - 1) [.ref x0] h (mx_KI (fun v1 h1 => ((¬ v1 = 0 → Q (.inl (some (.int x2))) h1) ∧ (v1 = 0 → hpK h1 x0 = 12 ∧ mx_SM mY_X12_readPipes (d - 1) [.ref x0, .int x1] h1 (mx_KI (fun v2 h2 => hpK h2 x0 = 12 ∧ ∃ b1 : Nat, hpR h2 x0 44 = some b1 ∧ hpK h2 b1 = 14 ∧ vp_in v2 (hpZ h2 b1) ∧ ∀ h3 : mxH, h3 = hsI h2 b1 v2.toNatClampNeg x4 → ((¬ x3 = (-1 : Int32) → ∃ b2 : Nat, hpR h3 x0 46 = some b2 ∧ hpK h3 b2 = 14 ∧ vp_in x3 (hpZ h3 b2) ∧ ∀ h4 : mxH, h4 = hsI h3 b2 x3.toNatClampNeg v2 → mx_SX mY_X12_readChain d 66 [(0, .ref x0), (1, .int x1), (2, .int x2), (6, .int v2)] [] h4 Q) ∧ (x3 = (-1 : Int32) → ∃ b3 : Nat, hpR h3 x0 42 = some b3 ∧ hpK h3 b3 = 14 ∧ vp_in x2 (hpZ h3 b3) ∧ ∀ h5 : mxH, h5 = hsI h3 b3 x2.toNatClampNeg v2 → mx_SX mY_X12_readChain d 66 [(0, .ref x0), (1, .int x1), (2, .int x2), (6, .int v2)] [] h5 Q))) (mx_XX mY_X12_readChain Q))))) (mx_XX mY_X12_readChain Q))))) : mx_SX mY_X12_readChain d 14 [(0, .ref x0), (1, .int x1), (2, .int x2), (3, .int x3), (4, .int x4), (5, .int x5)] [] h Q := by
  refine mx_iload (pc := 14) 5 (mx_dd dd_X12_readChain_0 10 (14, .iload 5, 2) rfl) rfl ?_
  refine mx_if_eq (pc := 16) 115 (mx_dd dd_X12_readChain_0 11 (16, .ifCond .eq 99, 3) rfl) rfl (fun c16 => ?_) (fun c16 => ?_)
  · have P := P.1 c16
    refine mx_iload_n (pc := 115) 2 (mx_dd dd_X12_readChain_1 21 (115, .iload_n 2, 1) rfl) rfl rfl ?_
    exact mx_ireturn (pc := 116) (mx_dd dd_X12_readChain_1 22 (116, .ireturn, 1) rfl) rfl rfl P
  · have P := P.2 c16
    refine mx_aload_n (pc := 19) 0 (mx_dd dd_X12_readChain_0 12 (19, .aload_n 0, 1) rfl) rfl rfl ?_
    obtain ⟨g1, P⟩ := P
    obtain ⟨g2, P⟩ := P
    refine mx_cVI (pc := 20) (Y := mY_X12_hasFailed) (As := []) mx_ml_X12_53 mx_y_X12_hasFailed rfl g2 (by decide) rfl (by decide) rfl (mx_dd dd_X12_readChain_0 13 (20, .invokevirtual 53, 3) rfl) g1 (by decide) P (fun v1 h1 P => ?_)
    refine mx_if_ne (pc := 23) 115 (mx_dd dd_X12_readChain_0 14 (23, .ifCond .ne 92, 3) rfl) rfl (fun c23 => ?_) (fun c23 => ?_)
    · have P := P.1 c23
      refine mx_iload_n (pc := 115) 2 (mx_dd dd_X12_readChain_1 21 (115, .iload_n 2, 1) rfl) rfl rfl ?_
      exact mx_ireturn (pc := 116) (mx_dd dd_X12_readChain_1 22 (116, .ireturn, 1) rfl) rfl rfl P
    · have P := P.2 c23
      refine mx_aload_n (pc := 26) 0 (mx_dd dd_X12_readChain_0 15 (26, .aload_n 0, 1) rfl) rfl rfl ?_
      refine mx_iload_n (pc := 27) 1 (mx_dd dd_X12_readChain_0 16 (27, .iload_n 1, 1) rfl) rfl rfl ?_
      obtain ⟨g3, P⟩ := P
      refine mx_cVI (pc := 28) (Y := mY_X12_readPipes) (As := [.int _]) mx_ml_X12_187 mx_y_X12_readPipes rfl g3 (by decide) rfl (by decide) rfl (mx_dd dd_X12_readChain_0 17 (28, .invokevirtual 187, 3) rfl) g1 (by decide) P (fun v2 h2 P => ?_)
      refine mx_istore (pc := 31) (mx_dd dd_X12_readChain_0 18 (31, .istore 6, 2) rfl) (by decide) (lv' := [(6, _), (0, _), (1, _), (2, _), (3, _), (4, _), (5, _)]) rfl ?_
      refine mx_aload_n (pc := 33) 1 (mx_dd dd_X12_readChain_0 19 (33, .aload_n 0, 1) rfl) rfl rfl ?_
      obtain ⟨g4, P⟩ := P
      obtain ⟨b1, g5, P⟩ := P
      refine mx_getR (pc := 34) mx_fl_X12_146 g4 rfl g5 (mx_dd dd_X12_readChain_0 20 (34, .getfield 146, 3) rfl) ?_
      refine mx_iload (pc := 37) 0 (mx_dd dd_X12_readChain_0 21 (37, .iload 6, 2) rfl) rfl ?_
      refine mx_iload (pc := 39) 5 (mx_dd dd_X12_readChain_0 22 (39, .iload 4, 2) rfl) rfl ?_
      obtain ⟨g6, P⟩ := P
      obtain ⟨g7, P⟩ := P
      refine mx_iast (pc := 41) g6 g7 (mx_dd dd_X12_readChain_0 23 (41, .iastore, 1) rfl) ?_
      have P := P _ rfl
      refine mx_iload_n (pc := 42) 4 (mx_dd dd_X12_readChain_0 24 (42, .iload_n 3, 1) rfl) rfl rfl ?_
      refine mx_iconst (pc := 43) (v := (-1 : Int32)) (mx_dd dd_X12_readChain_0 25 (43, .iconst (-1), 1) rfl) (by decide) ?_
      refine mx_icmp_ne (pc := 44) 58 (mx_dd dd_X12_readChain_0 26 (44, .if_icmp .ne 14, 3) rfl) rfl (fun c44 => ?_) (fun c44 => ?_)
      · have P := P.1 c44
        refine mx_aload_n (pc := 58) 1 (mx_dd dd_X12_readChain_0 33 (58, .aload_n 0, 1) rfl) rfl rfl ?_
        obtain ⟨b2, g8, P⟩ := P
        refine mx_getR (pc := 59) mx_fl_X12_152 g4 rfl g8 (mx_dd dd_X12_readChain_0 34 (59, .getfield 152, 3) rfl) ?_
        refine mx_iload_n (pc := 62) 4 (mx_dd dd_X12_readChain_0 35 (62, .iload_n 3, 1) rfl) rfl rfl ?_
        refine mx_iload (pc := 63) 0 (mx_dd dd_X12_readChain_0 36 (63, .iload 6, 2) rfl) rfl ?_
        obtain ⟨g9, P⟩ := P
        obtain ⟨g10, P⟩ := P
        refine mx_iast (pc := 65) g9 g10 (mx_dd dd_X12_readChain_0 37 (65, .iastore, 1) rfl) ?_
        have P := P _ rfl
        refine mx_sel [1, 2, 3, 0] rfl ?_
        exact P
      · have P := P.2 c44
        refine mx_aload_n (pc := 47) 1 (mx_dd dd_X12_readChain_0 27 (47, .aload_n 0, 1) rfl) rfl rfl ?_
        obtain ⟨b3, g11, P⟩ := P
        refine mx_getR (pc := 48) mx_fl_X12_140 g4 rfl g11 (mx_dd dd_X12_readChain_0 28 (48, .getfield 140, 3) rfl) ?_
        refine mx_iload_n (pc := 51) 3 (mx_dd dd_X12_readChain_0 29 (51, .iload_n 2, 1) rfl) rfl rfl ?_
        refine mx_iload (pc := 52) 0 (mx_dd dd_X12_readChain_0 30 (52, .iload 6, 2) rfl) rfl ?_
        obtain ⟨g12, P⟩ := P
        obtain ⟨g13, P⟩ := P
        refine mx_iast (pc := 54) g12 g13 (mx_dd dd_X12_readChain_0 31 (54, .iastore, 1) rfl) ?_
        have P := P _ rfl
        refine mx_goto (pc := 55) 66 (mx_dd dd_X12_readChain_0 32 (55, .goto 11, 3) rfl) rfl ?_
        refine mx_sel [1, 2, 3, 0] rfl ?_
        exact P
theorem b_X12_readChain_66 {d : Nat} {h : mxH} {Q : mxRes → mxH → Prop} (x0 : Nat) (x1 : Int32) (x2 : Int32) (x6 : Int32)
    (P : 1 ≤ d ∧ hpK h x0 = 12 ∧ mx_SM mY_X12_takes (d - 1) [.ref x0, .int (9766 : Int32)] h (mx_KI (fun v1 h1 => ((v1 = 0 → hpK h1 x0 = 12 ∧ mx_SM mY_X12_takes (d - 1) [.ref x0, .int (31868 : Int32)] h1 (mx_KI (fun v2 h2 => ((v2 = 0 → (((0 : Int32) ≤ 0 → mx_SX mY_X12_readChain d 14 [(0, .ref x0), (1, .int x1), (2, .int x2), (3, .int x6), (4, .int (0 : Int32)), (5, .int (0 : Int32))] [] h2 Q) ∧ (¬ (0 : Int32) ≤ 0 → mx_SX mY_X12_readChain d 14 [(0, .ref x0), (1, .int x1), (2, .int x2), (3, .int x6), (4, .int (0 : Int32)), (5, .int (1 : Int32))] [] h2 Q))) ∧ (¬ v2 = 0 → (((2 : Int32) ≤ 0 → mx_SX mY_X12_readChain d 14 [(0, .ref x0), (1, .int x1), (2, .int x2), (3, .int x6), (4, .int (2 : Int32)), (5, .int (0 : Int32))] [] h2 Q) ∧ (¬ (2 : Int32) ≤ 0 → mx_SX mY_X12_readChain d 14 [(0, .ref x0), (1, .int x1), (2, .int x2), (3, .int x6), (4, .int (2 : Int32)), (5, .int (1 : Int32))] [] h2 Q))))) (mx_XX mY_X12_readChain Q))) ∧ (¬ v1 = 0 → (((1 : Int32) ≤ 0 → mx_SX mY_X12_readChain d 14 [(0, .ref x0), (1, .int x1), (2, .int x2), (3, .int x6), (4, .int (1 : Int32)), (5, .int (0 : Int32))] [] h1 Q) ∧ (¬ (1 : Int32) ≤ 0 → mx_SX mY_X12_readChain d 14 [(0, .ref x0), (1, .int x1), (2, .int x2), (3, .int x6), (4, .int (1 : Int32)), (5, .int (1 : Int32))] [] h1 Q))))) (mx_XX mY_X12_readChain Q))) : mx_SX mY_X12_readChain d 66 [(0, .ref x0), (1, .int x1), (2, .int x2), (6, .int x6)] [] h Q := by
  refine mx_iload (pc := 66) 3 (mx_dd dd_X12_readChain_0 38 (66, .iload 6, 2) rfl) rfl ?_
  refine mx_istore_n (pc := 68) (mx_dd dd_X12_readChain_0 39 (68, .istore_n 3, 1) rfl) rfl (by decide) (lv' := [(3, _), (0, _), (1, _), (2, _), (6, _)]) rfl ?_
  refine mx_aload_n (pc := 69) 1 (mx_dd dd_X12_readChain_1 0 (69, .aload_n 0, 1) rfl) rfl rfl ?_
  refine mx_sipush (pc := 70) (v := (9766 : Int32)) (mx_dd dd_X12_readChain_1 1 (70, .sipush 9766, 3) rfl) (by decide) ?_
  obtain ⟨g1, P⟩ := P
  obtain ⟨g2, P⟩ := P
  refine mx_cVI (pc := 73) (Y := mY_X12_takes) (As := [.int _]) mx_ml_X12_81 mx_y_X12_takes rfl g2 (by decide) rfl (by decide) rfl (mx_dd dd_X12_readChain_1 2 (73, .invokevirtual 81, 3) rfl) g1 (by decide) P (fun v1 h1 P => ?_)
  refine mx_if_eq (pc := 76) 83 (mx_dd dd_X12_readChain_1 3 (76, .ifCond .eq 7, 3) rfl) rfl (fun c76 => ?_) (fun c76 => ?_)
  · have P := P.1 c76
    refine mx_aload_n (pc := 83) 1 (mx_dd dd_X12_readChain_1 6 (83, .aload_n 0, 1) rfl) rfl rfl ?_
    refine mx_sipush (pc := 84) (v := (31868 : Int32)) (mx_dd dd_X12_readChain_1 7 (84, .sipush 31868, 3) rfl) (by decide) ?_
    obtain ⟨g3, P⟩ := P
    refine mx_cVI (pc := 87) (Y := mY_X12_takes) (As := [.int _]) mx_ml_X12_81 mx_y_X12_takes rfl g3 (by decide) rfl (by decide) rfl (mx_dd dd_X12_readChain_1 8 (87, .invokevirtual 81, 3) rfl) g1 (by decide) P (fun v2 h2 P => ?_)
    refine mx_if_eq (pc := 90) 97 (mx_dd dd_X12_readChain_1 9 (90, .ifCond .eq 7, 3) rfl) rfl (fun c90 => ?_) (fun c90 => ?_)
    · have P := P.1 c90
      refine mx_iconst (pc := 97) (v := (0 : Int32)) (mx_dd dd_X12_readChain_1 12 (97, .iconst 0, 1) rfl) (by decide) ?_
      refine mx_istore (pc := 98) (mx_dd dd_X12_readChain_1 13 (98, .istore 4, 2) rfl) (by decide) (lv' := [(4, _), (3, _), (0, _), (1, _), (2, _), (6, _)]) rfl ?_
      refine mx_iload (pc := 100) 0 (mx_dd dd_X12_readChain_1 14 (100, .iload 4, 2) rfl) rfl ?_
      refine mx_if_le (pc := 102) 109 (mx_dd dd_X12_readChain_1 15 (102, .ifCond .le 7, 3) rfl) rfl (fun c102 => ?_) (fun c102 => ?_)
      · have P := P.1 c102
        refine mx_iconst (pc := 109) (v := (0 : Int32)) (mx_dd dd_X12_readChain_1 18 (109, .iconst 0, 1) rfl) (by decide) ?_
        refine mx_istore (pc := 110) (mx_dd dd_X12_readChain_1 19 (110, .istore 5, 2) rfl) (by decide) (lv' := [(5, _), (4, _), (3, _), (0, _), (1, _), (2, _), (6, _)]) rfl ?_
        refine mx_goto (pc := 112) 14 (mx_dd dd_X12_readChain_1 20 (112, .goto (-98), 3) rfl) rfl ?_
        refine mx_sel [3, 4, 5, 2, 1, 0] rfl ?_
        exact P
      · have P := P.2 c102
        refine mx_iconst (pc := 105) (v := (1 : Int32)) (mx_dd dd_X12_readChain_1 16 (105, .iconst 1, 1) rfl) (by decide) ?_
        refine mx_goto (pc := 106) 110 (mx_dd dd_X12_readChain_1 17 (106, .goto 4, 3) rfl) rfl ?_
        refine mx_istore (pc := 110) (mx_dd dd_X12_readChain_1 19 (110, .istore 5, 2) rfl) (by decide) (lv' := [(5, _), (4, _), (3, _), (0, _), (1, _), (2, _), (6, _)]) rfl ?_
        refine mx_goto (pc := 112) 14 (mx_dd dd_X12_readChain_1 20 (112, .goto (-98), 3) rfl) rfl ?_
        refine mx_sel [3, 4, 5, 2, 1, 0] rfl ?_
        exact P
    · have P := P.2 c90
      refine mx_iconst (pc := 93) (v := (2 : Int32)) (mx_dd dd_X12_readChain_1 10 (93, .iconst 2, 1) rfl) (by decide) ?_
      refine mx_goto (pc := 94) 98 (mx_dd dd_X12_readChain_1 11 (94, .goto 4, 3) rfl) rfl ?_
      refine mx_istore (pc := 98) (mx_dd dd_X12_readChain_1 13 (98, .istore 4, 2) rfl) (by decide) (lv' := [(4, _), (3, _), (0, _), (1, _), (2, _), (6, _)]) rfl ?_
      refine mx_iload (pc := 100) 0 (mx_dd dd_X12_readChain_1 14 (100, .iload 4, 2) rfl) rfl ?_
      refine mx_if_le (pc := 102) 109 (mx_dd dd_X12_readChain_1 15 (102, .ifCond .le 7, 3) rfl) rfl (fun c102 => ?_) (fun c102 => ?_)
      · have P := P.1 c102
        refine mx_iconst (pc := 109) (v := (0 : Int32)) (mx_dd dd_X12_readChain_1 18 (109, .iconst 0, 1) rfl) (by decide) ?_
        refine mx_istore (pc := 110) (mx_dd dd_X12_readChain_1 19 (110, .istore 5, 2) rfl) (by decide) (lv' := [(5, _), (4, _), (3, _), (0, _), (1, _), (2, _), (6, _)]) rfl ?_
        refine mx_goto (pc := 112) 14 (mx_dd dd_X12_readChain_1 20 (112, .goto (-98), 3) rfl) rfl ?_
        refine mx_sel [3, 4, 5, 2, 1, 0] rfl ?_
        exact P
      · have P := P.2 c102
        refine mx_iconst (pc := 105) (v := (1 : Int32)) (mx_dd dd_X12_readChain_1 16 (105, .iconst 1, 1) rfl) (by decide) ?_
        refine mx_goto (pc := 106) 110 (mx_dd dd_X12_readChain_1 17 (106, .goto 4, 3) rfl) rfl ?_
        refine mx_istore (pc := 110) (mx_dd dd_X12_readChain_1 19 (110, .istore 5, 2) rfl) (by decide) (lv' := [(5, _), (4, _), (3, _), (0, _), (1, _), (2, _), (6, _)]) rfl ?_
        refine mx_goto (pc := 112) 14 (mx_dd dd_X12_readChain_1 20 (112, .goto (-98), 3) rfl) rfl ?_
        refine mx_sel [3, 4, 5, 2, 1, 0] rfl ?_
        exact P
  · have P := P.2 c76
    refine mx_iconst (pc := 79) (v := (1 : Int32)) (mx_dd dd_X12_readChain_1 4 (79, .iconst 1, 1) rfl) (by decide) ?_
    refine mx_goto (pc := 80) 98 (mx_dd dd_X12_readChain_1 5 (80, .goto 18, 3) rfl) rfl ?_
    refine mx_istore (pc := 98) (mx_dd dd_X12_readChain_1 13 (98, .istore 4, 2) rfl) (by decide) (lv' := [(4, _), (3, _), (0, _), (1, _), (2, _), (6, _)]) rfl ?_
    refine mx_iload (pc := 100) 0 (mx_dd dd_X12_readChain_1 14 (100, .iload 4, 2) rfl) rfl ?_
    refine mx_if_le (pc := 102) 109 (mx_dd dd_X12_readChain_1 15 (102, .ifCond .le 7, 3) rfl) rfl (fun c102 => ?_) (fun c102 => ?_)
    · have P := P.1 c102
      refine mx_iconst (pc := 109) (v := (0 : Int32)) (mx_dd dd_X12_readChain_1 18 (109, .iconst 0, 1) rfl) (by decide) ?_
      refine mx_istore (pc := 110) (mx_dd dd_X12_readChain_1 19 (110, .istore 5, 2) rfl) (by decide) (lv' := [(5, _), (4, _), (3, _), (0, _), (1, _), (2, _), (6, _)]) rfl ?_
      refine mx_goto (pc := 112) 14 (mx_dd dd_X12_readChain_1 20 (112, .goto (-98), 3) rfl) rfl ?_
      refine mx_sel [3, 4, 5, 2, 1, 0] rfl ?_
      exact P
    · have P := P.2 c102
      refine mx_iconst (pc := 105) (v := (1 : Int32)) (mx_dd dd_X12_readChain_1 16 (105, .iconst 1, 1) rfl) (by decide) ?_
      refine mx_goto (pc := 106) 110 (mx_dd dd_X12_readChain_1 17 (106, .goto 4, 3) rfl) rfl ?_
      refine mx_istore (pc := 110) (mx_dd dd_X12_readChain_1 19 (110, .istore 5, 2) rfl) (by decide) (lv' := [(5, _), (4, _), (3, _), (0, _), (1, _), (2, _), (6, _)]) rfl ?_
      refine mx_goto (pc := 112) 14 (mx_dd dd_X12_readChain_1 20 (112, .goto (-98), 3) rfl) rfl ?_
      refine mx_sel [3, 4, 5, 2, 1, 0] rfl ?_
      exact P
theorem b_X12_readPipes {d : Nat} {h : mxH} {Q : mxRes → mxH → Prop} (x0 : Nat) (x1 : Int32)
    (P : 1 ≤ d ∧ hpK h x0 = 12 ∧ mx_SM mY_X12_node (d - 1) [.ref x0, .int (3 : Int32)] h (mx_KI (fun v1 h1 => hpK h1 x0 = 12 ∧ ∃ b1 : Nat, hpR h1 x0 43 = some b1 ∧ mx_SM mY_X12_takes (d - 1) [.ref x0, .int (33 : Int32)] h1 (mx_KI (fun v2 h2 => ((v2 = 0 → hpK h2 b1 = 14 ∧ vp_in v1 (hpZ h2 b1) ∧ ∀ h3 : mxH, h3 = hsI h2 b1 v1.toNatClampNeg (0 : Int32) → mx_SX mY_X12_readPipes d 31 [(0, .ref x0), (1, .int x1), (2, .int v1), (3, .int (-1 : Int32)), (4, .int (1 : Int32))] [] h3 Q) ∧ (¬ v2 = 0 → hpK h2 b1 = 14 ∧ vp_in v1 (hpZ h2 b1) ∧ ∀ h4 : mxH, h4 = hsI h2 b1 v1.toNatClampNeg (1 : Int32) → mx_SX mY_X12_readPipes d 31 [(0, .ref x0), (1, .int x1), (2, .int v1), (3, .int (-1 : Int32)), (4, .int (1 : Int32))] [] h4 Q))) (mx_XX mY_X12_readPipes Q))) (mx_XX mY_X12_readPipes Q))) : mx_SM mY_X12_readPipes d [.ref x0, .int x1] h Q := by
  refine mx_SM_of (by decide) (Nat.le_of_ble_eq_true rfl) ?_
  show mx_SX mY_X12_readPipes d 0 [(0, .ref x0), (1, .int x1)] [] h Q
  refine mx_aload_n (pc := 0) 0 (mx_dd dd_X12_readPipes 0 (0, .aload_n 0, 1) rfl) rfl rfl ?_
  refine mx_iconst (pc := 1) (v := (3 : Int32)) (mx_dd dd_X12_readPipes 1 (1, .iconst 3, 1) rfl) (by decide) ?_
  obtain ⟨g1, P⟩ := P
  obtain ⟨g2, P⟩ := P
  refine mx_cVI (pc := 2) (Y := mY_X12_node) (As := [.int _]) mx_ml_X12_172 mx_y_X12_node rfl g2 (by decide) rfl (by decide) rfl (mx_dd dd_X12_readPipes 2 (2, .invokevirtual 172, 3) rfl) g1 (by decide) P (fun v1 h1 P => ?_)
  refine mx_istore_n (pc := 5) (mx_dd dd_X12_readPipes 3 (5, .istore_n 2, 1) rfl) rfl (by decide) (lv' := [(2, _), (0, _), (1, _)]) rfl ?_
  refine mx_aload_n (pc := 6) 1 (mx_dd dd_X12_readPipes 4 (6, .aload_n 0, 1) rfl) rfl rfl ?_
  obtain ⟨g3, P⟩ := P
  obtain ⟨b1, g4, P⟩ := P
  refine mx_getR (pc := 7) mx_fl_X12_143 g3 rfl g4 (mx_dd dd_X12_readPipes 5 (7, .getfield 143, 3) rfl) ?_
  refine mx_iload_n (pc := 10) 0 (mx_dd dd_X12_readPipes 6 (10, .iload_n 2, 1) rfl) rfl rfl ?_
  refine mx_aload_n (pc := 11) 1 (mx_dd dd_X12_readPipes 7 (11, .aload_n 0, 1) rfl) rfl rfl ?_
  refine mx_bipush (pc := 12) (v := (33 : Int32)) (mx_dd dd_X12_readPipes 8 (12, .bipush 33, 2) rfl) (by decide) ?_
  refine mx_cVI (pc := 14) (Y := mY_X12_takes) (As := [.int _]) mx_ml_X12_81 mx_y_X12_takes rfl g3 (by decide) rfl (by simp [Value.category]) rfl (mx_dd dd_X12_readPipes 9 (14, .invokevirtual 81, 3) rfl) g1 (by decide) P (fun v2 h2 P => ?_)
  refine mx_if_eq (pc := 17) 24 (mx_dd dd_X12_readPipes 10 (17, .ifCond .eq 7, 3) rfl) rfl (fun c17 => ?_) (fun c17 => ?_)
  · have P := P.1 c17
    refine mx_iconst (pc := 24) (v := (0 : Int32)) (mx_dd dd_X12_readPipes 13 (24, .iconst 0, 1) rfl) (by decide) ?_
    obtain ⟨g5, P⟩ := P
    obtain ⟨g6, P⟩ := P
    refine mx_iast (pc := 25) g5 g6 (mx_dd dd_X12_readPipes 14 (25, .iastore, 1) rfl) ?_
    have P := P _ rfl
    refine mx_iconst (pc := 26) (v := (-1 : Int32)) (mx_dd dd_X12_readPipes 15 (26, .iconst (-1), 1) rfl) (by decide) ?_
    refine mx_istore_n (pc := 27) (mx_dd dd_X12_readPipes 16 (27, .istore_n 3, 1) rfl) rfl (by decide) (lv' := [(3, _), (2, _), (0, _), (1, _)]) rfl ?_
    refine mx_iconst (pc := 28) (v := (1 : Int32)) (mx_dd dd_X12_readPipes 17 (28, .iconst 1, 1) rfl) (by decide) ?_
    refine mx_istore (pc := 29) (mx_dd dd_X12_readPipes 18 (29, .istore 4, 2) rfl) (by decide) (lv' := [(4, _), (3, _), (2, _), (0, _), (1, _)]) rfl ?_
    refine mx_sel [3, 4, 2, 1, 0] rfl ?_
    exact P
  · have P := P.2 c17
    refine mx_iconst (pc := 20) (v := (1 : Int32)) (mx_dd dd_X12_readPipes 11 (20, .iconst 1, 1) rfl) (by decide) ?_
    refine mx_goto (pc := 21) 25 (mx_dd dd_X12_readPipes 12 (21, .goto 4, 3) rfl) rfl ?_
    obtain ⟨g7, P⟩ := P
    obtain ⟨g8, P⟩ := P
    refine mx_iast (pc := 25) g7 g8 (mx_dd dd_X12_readPipes 14 (25, .iastore, 1) rfl) ?_
    have P := P _ rfl
    refine mx_iconst (pc := 26) (v := (-1 : Int32)) (mx_dd dd_X12_readPipes 15 (26, .iconst (-1), 1) rfl) (by decide) ?_
    refine mx_istore_n (pc := 27) (mx_dd dd_X12_readPipes 16 (27, .istore_n 3, 1) rfl) rfl (by decide) (lv' := [(3, _), (2, _), (0, _), (1, _)]) rfl ?_
    refine mx_iconst (pc := 28) (v := (1 : Int32)) (mx_dd dd_X12_readPipes 17 (28, .iconst 1, 1) rfl) (by decide) ?_
    refine mx_istore (pc := 29) (mx_dd dd_X12_readPipes 18 (29, .istore 4, 2) rfl) (by decide) (lv' := [(4, _), (3, _), (2, _), (0, _), (1, _)]) rfl ?_
    refine mx_sel [3, 4, 2, 1, 0] rfl ?_
    exact P
theorem b_X12_readPipes_31 {d : Nat} {h : mxH} {Q : mxRes → mxH → Prop} (x0 : Nat) (x1 : Int32) (x2 : Int32) (x3 : Int32) (x4 : Int32)
    (P : ((x4 = 0 → Q (.inl (some (.int x2))) h) ∧ (¬ x4 = 0 → 1 ≤ d ∧ hpK h x0 = 12 ∧ mx_SM mY_X12_hasFailed (d - 1) [.ref x0] h (mx_KI (fun v1 h1 => ((¬ v1 = 0 → Q (.inl (some (.int x2))) h1) ∧ (v1 = 0 → hpK h1 x0 = 12 ∧ mx_SM mY_X12_readCommand (d - 1) [.ref x0, .int x1] h1 (mx_KI (fun v2 h2 => ((¬ x3 = (-1 : Int32) → hpK h2 x0 = 12 ∧ ∃ b1 : Nat, hpR h2 x0 46 = some b1 ∧ hpK h2 b1 = 14 ∧ vp_in x3 (hpZ h2 b1) ∧ ∀ h3 : mxH, h3 = hsI h2 b1 x3.toNatClampNeg v2 → mx_SX mY_X12_readPipes d 74 [(0, .ref x0), (1, .int x1), (2, .int x2), (5, .int v2)] [] h3 Q) ∧ (x3 = (-1 : Int32) → hpK h2 x0 = 12 ∧ ∃ b2 : Nat, hpR h2 x0 42 = some b2 ∧ hpK h2 b2 = 14 ∧ vp_in x2 (hpZ h2 b2) ∧ ∀ h4 : mxH, h4 = hsI h2 b2 x2.toNatClampNeg v2 → mx_SX mY_X12_readPipes d 74 [(0, .ref x0), (1, .int x1), (2, .int x2), (5, .int v2)] [] h4 Q))) (mx_XX mY_X12_readPipes Q))))) (mx_XX mY_X12_readPipes Q))))) : mx_SX mY_X12_readPipes d 31 [(0, .ref x0), (1, .int x1), (2, .int x2), (3, .int x3), (4, .int x4)] [] h Q := by
  refine mx_iload (pc := 31) 4 (mx_dd dd_X12_readPipes 19 (31, .iload 4, 2) rfl) rfl ?_
  refine mx_if_eq (pc := 33) 88 (mx_dd dd_X12_readPipes 20 (33, .ifCond .eq 55, 3) rfl) rfl (fun c33 => ?_) (fun c33 => ?_)
  · have P := P.1 c33
    refine mx_iload_n (pc := 88) 2 (mx_dd dd_X12_readPipes 49 (88, .iload_n 2, 1) rfl) rfl rfl ?_
    exact mx_ireturn (pc := 89) (mx_dd dd_X12_readPipes 50 (89, .ireturn, 1) rfl) rfl rfl P
  · have P := P.2 c33
    refine mx_aload_n (pc := 36) 0 (mx_dd dd_X12_readPipes 21 (36, .aload_n 0, 1) rfl) rfl rfl ?_
    obtain ⟨g1, P⟩ := P
    obtain ⟨g2, P⟩ := P
    refine mx_cVI (pc := 37) (Y := mY_X12_hasFailed) (As := []) mx_ml_X12_53 mx_y_X12_hasFailed rfl g2 (by decide) rfl (by decide) rfl (mx_dd dd_X12_readPipes 22 (37, .invokevirtual 53, 3) rfl) g1 (by decide) P (fun v1 h1 P => ?_)
    refine mx_if_ne (pc := 40) 88 (mx_dd dd_X12_readPipes 23 (40, .ifCond .ne 48, 3) rfl) rfl (fun c40 => ?_) (fun c40 => ?_)
    · have P := P.1 c40
      refine mx_iload_n (pc := 88) 2 (mx_dd dd_X12_readPipes 49 (88, .iload_n 2, 1) rfl) rfl rfl ?_
      exact mx_ireturn (pc := 89) (mx_dd dd_X12_readPipes 50 (89, .ireturn, 1) rfl) rfl rfl P
    · have P := P.2 c40
      refine mx_aload_n (pc := 43) 0 (mx_dd dd_X12_readPipes 24 (43, .aload_n 0, 1) rfl) rfl rfl ?_
      refine mx_iload_n (pc := 44) 1 (mx_dd dd_X12_readPipes 25 (44, .iload_n 1, 1) rfl) rfl rfl ?_
      obtain ⟨g3, P⟩ := P
      refine mx_cVI (pc := 45) (Y := mY_X12_readCommand) (As := [.int _]) mx_ml_X12_190 mx_y_X12_readCommand rfl g3 (by decide) rfl (by decide) rfl (mx_dd dd_X12_readPipes 26 (45, .invokevirtual 190, 3) rfl) g1 (by decide) P (fun v2 h2 P => ?_)
      refine mx_istore (pc := 48) (mx_dd dd_X12_readPipes 27 (48, .istore 5, 2) rfl) (by decide) (lv' := [(5, _), (0, _), (1, _), (2, _), (3, _), (4, _)]) rfl ?_
      refine mx_iload_n (pc := 50) 4 (mx_dd dd_X12_readPipes 28 (50, .iload_n 3, 1) rfl) rfl rfl ?_
      refine mx_iconst (pc := 51) (v := (-1 : Int32)) (mx_dd dd_X12_readPipes 29 (51, .iconst (-1), 1) rfl) (by decide) ?_
      refine mx_icmp_ne (pc := 52) 66 (mx_dd dd_X12_readPipes 30 (52, .if_icmp .ne 14, 3) rfl) rfl (fun c52 => ?_) (fun c52 => ?_)
      · have P := P.1 c52
        refine mx_aload_n (pc := 66) 1 (mx_dd dd_X12_readPipes 37 (66, .aload_n 0, 1) rfl) rfl rfl ?_
        obtain ⟨g4, P⟩ := P
        obtain ⟨b1, g5, P⟩ := P
        refine mx_getR (pc := 67) mx_fl_X12_152 g4 rfl g5 (mx_dd dd_X12_readPipes 38 (67, .getfield 152, 3) rfl) ?_
        refine mx_iload_n (pc := 70) 4 (mx_dd dd_X12_readPipes 39 (70, .iload_n 3, 1) rfl) rfl rfl ?_
        refine mx_iload (pc := 71) 0 (mx_dd dd_X12_readPipes 40 (71, .iload 5, 2) rfl) rfl ?_
        obtain ⟨g6, P⟩ := P
        obtain ⟨g7, P⟩ := P
        refine mx_iast (pc := 73) g6 g7 (mx_dd dd_X12_readPipes 41 (73, .iastore, 1) rfl) ?_
        have P := P _ rfl
        refine mx_sel [1, 2, 3, 0] rfl ?_
        exact P
      · have P := P.2 c52
        refine mx_aload_n (pc := 55) 1 (mx_dd dd_X12_readPipes 31 (55, .aload_n 0, 1) rfl) rfl rfl ?_
        obtain ⟨g8, P⟩ := P
        obtain ⟨b2, g9, P⟩ := P
        refine mx_getR (pc := 56) mx_fl_X12_140 g8 rfl g9 (mx_dd dd_X12_readPipes 32 (56, .getfield 140, 3) rfl) ?_
        refine mx_iload_n (pc := 59) 3 (mx_dd dd_X12_readPipes 33 (59, .iload_n 2, 1) rfl) rfl rfl ?_
        refine mx_iload (pc := 60) 0 (mx_dd dd_X12_readPipes 34 (60, .iload 5, 2) rfl) rfl ?_
        obtain ⟨g10, P⟩ := P
        obtain ⟨g11, P⟩ := P
        refine mx_iast (pc := 62) g10 g11 (mx_dd dd_X12_readPipes 35 (62, .iastore, 1) rfl) ?_
        have P := P _ rfl
        refine mx_goto (pc := 63) 74 (mx_dd dd_X12_readPipes 36 (63, .goto 11, 3) rfl) rfl ?_
        refine mx_sel [1, 2, 3, 0] rfl ?_
        exact P
theorem b_X12_readPipes_74 {d : Nat} {h : mxH} {Q : mxRes → mxH → Prop} (x0 : Nat) (x1 : Int32) (x2 : Int32) (x5 : Int32)
    (P : 1 ≤ d ∧ hpK h x0 = 12 ∧ mx_SM mY_X12_takes (d - 1) [.ref x0, .int (124 : Int32)] h (mx_KI (fun v1 h1 => mx_SX mY_X12_readPipes d 31 [(0, .ref x0), (1, .int x1), (2, .int x2), (3, .int x5), (4, .int v1)] [] h1 Q) (mx_XX mY_X12_readPipes Q))) : mx_SX mY_X12_readPipes d 74 [(0, .ref x0), (1, .int x1), (2, .int x2), (5, .int x5)] [] h Q := by
  refine mx_iload (pc := 74) 3 (mx_dd dd_X12_readPipes 42 (74, .iload 5, 2) rfl) rfl ?_
  refine mx_istore_n (pc := 76) (mx_dd dd_X12_readPipes 43 (76, .istore_n 3, 1) rfl) rfl (by decide) (lv' := [(3, _), (0, _), (1, _), (2, _), (5, _)]) rfl ?_
  refine mx_aload_n (pc := 77) 1 (mx_dd dd_X12_readPipes 44 (77, .aload_n 0, 1) rfl) rfl rfl ?_
  refine mx_bipush (pc := 78) (v := (124 : Int32)) (mx_dd dd_X12_readPipes 45 (78, .bipush 124, 2) rfl) (by decide) ?_
  obtain ⟨g1, P⟩ := P
  obtain ⟨g2, P⟩ := P
  refine mx_cVI (pc := 80) (Y := mY_X12_takes) (As := [.int _]) mx_ml_X12_81 mx_y_X12_takes rfl g2 (by decide) rfl (by decide) rfl (mx_dd dd_X12_readPipes 46 (80, .invokevirtual 81, 3) rfl) g1 (by decide) P (fun v1 h1 P => ?_)
  refine mx_istore (pc := 83) (mx_dd dd_X12_readPipes 47 (83, .istore 4, 2) rfl) (by decide) (lv' := [(4, _), (3, _), (0, _), (1, _), (2, _), (5, _)]) rfl ?_
  refine mx_goto (pc := 85) 31 (mx_dd dd_X12_readPipes 48 (85, .goto (-54), 3) rfl) rfl ?_
  refine mx_sel [2, 3, 4, 1, 0] rfl ?_
  exact P
theorem b_X12_opens {d : Nat} {h : mxH} {Q : mxRes → mxH → Prop} (x0 : Nat) (x1 : Int32)
    (P : ((¬ x1 = (5 : Int32) → Q (.inl none) h) ∧ (x1 = (5 : Int32) → 1 ≤ d ∧ hpK h x0 = 12 ∧ mx_SM mY_X12_fails (d - 1) [.ref x0, .int (2 : Int32)] h (mx_KV (fun h1 => Q (.inl none) h1) (mx_XX mY_X12_opens Q))))) : mx_SM mY_X12_opens d [.ref x0, .int x1] h Q := by
  refine mx_SM_of (by decide) (Nat.le_of_ble_eq_true rfl) ?_
  show mx_SX mY_X12_opens d 0 [(0, .ref x0), (1, .int x1)] [] h Q
  refine mx_iload_n (pc := 0) 1 (mx_dd dd_X12_opens 0 (0, .iload_n 1, 1) rfl) rfl rfl ?_
  refine mx_iconst (pc := 1) (v := (5 : Int32)) (mx_dd dd_X12_opens 1 (1, .iconst 5, 1) rfl) (by decide) ?_
  refine mx_icmp_ne (pc := 2) 10 (mx_dd dd_X12_opens 2 (2, .if_icmp .ne 8, 3) rfl) rfl (fun c2 => ?_) (fun c2 => ?_)
  · have P := P.1 c2
    exact mx_return (pc := 10) (mx_dd dd_X12_opens 6 (10, .return_, 1) rfl) rfl P
  · have P := P.2 c2
    refine mx_aload_n (pc := 5) 0 (mx_dd dd_X12_opens 3 (5, .aload_n 0, 1) rfl) rfl rfl ?_
    refine mx_iconst (pc := 6) (v := (2 : Int32)) (mx_dd dd_X12_opens 4 (6, .iconst 2, 1) rfl) (by decide) ?_
    obtain ⟨g1, P⟩ := P
    obtain ⟨g2, P⟩ := P
    refine mx_cVV (pc := 7) (Y := mY_X12_fails) (As := [.int _]) mx_ml_X12_84 mx_y_X12_fails rfl g2 (by decide) rfl (by decide) rfl (mx_dd dd_X12_opens 5 (7, .invokevirtual 84, 3) rfl) g1 (by decide) P (fun h1 P => ?_)
    exact mx_return (pc := 10) (mx_dd dd_X12_opens 6 (10, .return_, 1) rfl) rfl P
theorem b_X12_readCommand {d : Nat} {h : mxH} {Q : mxRes → mxH → Prop} (x0 : Nat) (x1 : Int32)
    (P : 1 ≤ d ∧ hpK h x0 = 12 ∧ mx_SM mY_X12_node (d - 1) [.ref x0, .int (10 : Int32)] h (mx_KI (fun v1 h1 => hpK h1 x0 = 12 ∧ (((hpI h1 x0 7) = (40 : Int32) → mx_SX mY_X12_readCommand d 25 [(0, .ref x0), (1, .int x1), (2, .int v1)] [] h1 Q) ∧ (¬ (hpI h1 x0 7) = (40 : Int32) → ((¬ (hpI h1 x0 7) = (123 : Int32) → mx_SM mY_X12_isWord (d - 1) [.ref x0, .ref (3 + 13)] h1 (mx_KI (fun v2 h2 => ((v2 = 0 → hpK h2 x0 = 12 ∧ mx_SM mY_X12_isWord (d - 1) [.ref x0, .ref (3 + 14)] h2 (mx_KI (fun v3 h3 => ((v3 = 0 → hpK h3 x0 = 12 ∧ mx_SM mY_X12_isWord (d - 1) [.ref x0, .ref (3 + 15)] h3 (mx_KI (fun v4 h4 => ((v4 = 0 → hpK h4 x0 = 12 ∧ mx_SM mY_X12_readPlain (d - 1) [.ref x0, .int v1] h4 (mx_KV (fun h5 => mx_SX mY_X12_readCommand d 93 [(0, .ref x0), (2, .int v1)] [] h5 Q) (mx_XX mY_X12_readCommand Q))) ∧ (¬ v4 = 0 → hpK h4 x0 = 12 ∧ mx_SM mY_X12_readDef (d - 1) [.ref x0, .int v1, .int x1] h4 (mx_KV (fun h6 => mx_SX mY_X12_readCommand d 93 [(0, .ref x0), (2, .int v1)] [] h6 Q) (mx_XX mY_X12_readCommand Q))))) (mx_XX mY_X12_readCommand Q))) ∧ (¬ v3 = 0 → hpK h3 x0 = 12 ∧ mx_SM mY_X12_readWhile (d - 1) [.ref x0, .int v1, .int x1] h3 (mx_KV (fun h7 => mx_SX mY_X12_readCommand d 93 [(0, .ref x0), (2, .int v1)] [] h7 Q) (mx_XX mY_X12_readCommand Q))))) (mx_XX mY_X12_readCommand Q))) ∧ (¬ v2 = 0 → hpK h2 x0 = 12 ∧ mx_SM mY_X12_readIf (d - 1) [.ref x0, .int v1, .int x1] h2 (mx_KV (fun h8 => mx_SX mY_X12_readCommand d 93 [(0, .ref x0), (2, .int v1)] [] h8 Q) (mx_XX mY_X12_readCommand Q))))) (mx_XX mY_X12_readCommand Q))) ∧ ((hpI h1 x0 7) = (123 : Int32) → mx_SX mY_X12_readCommand d 25 [(0, .ref x0), (1, .int x1), (2, .int v1)] [] h1 Q))))) (mx_XX mY_X12_readCommand Q))) : mx_SM mY_X12_readCommand d [.ref x0, .int x1] h Q := by
  refine mx_SM_of (by decide) (Nat.le_of_ble_eq_true rfl) ?_
  show mx_SX mY_X12_readCommand d 0 [(0, .ref x0), (1, .int x1)] [] h Q
  refine mx_aload_n (pc := 0) 0 (mx_dd dd_X12_readCommand 0 (0, .aload_n 0, 1) rfl) rfl rfl ?_
  refine mx_bipush (pc := 1) (v := (10 : Int32)) (mx_dd dd_X12_readCommand 1 (1, .bipush 10, 2) rfl) (by decide) ?_
  obtain ⟨g1, P⟩ := P
  obtain ⟨g2, P⟩ := P
  refine mx_cVI (pc := 3) (Y := mY_X12_node) (As := [.int _]) mx_ml_X12_172 mx_y_X12_node rfl g2 (by decide) rfl (by decide) rfl (mx_dd dd_X12_readCommand 2 (3, .invokevirtual 172, 3) rfl) g1 (by decide) P (fun v1 h1 P => ?_)
  refine mx_istore_n (pc := 6) (mx_dd dd_X12_readCommand 3 (6, .istore_n 2, 1) rfl) rfl (by decide) (lv' := [(2, _), (0, _), (1, _)]) rfl ?_
  refine mx_aload_n (pc := 7) 1 (mx_dd dd_X12_readCommand 4 (7, .aload_n 0, 1) rfl) rfl rfl ?_
  obtain ⟨g3, P⟩ := P
  refine mx_getI (pc := 8) mx_fl_X12_40 g3 rfl (mx_dd dd_X12_readCommand 5 (8, .getfield 40, 3) rfl) ?_
  refine mx_bipush (pc := 11) (v := (40 : Int32)) (mx_dd dd_X12_readCommand 6 (11, .bipush 40, 2) rfl) (by decide) ?_
  refine mx_icmp_eq (pc := 13) 25 (mx_dd dd_X12_readCommand 7 (13, .if_icmp .eq 12, 3) rfl) rfl (fun c13 => ?_) (fun c13 => ?_)
  · have P := P.1 c13
    refine mx_sel [1, 2, 0] rfl ?_
    exact P
  · have P := P.2 c13
    refine mx_aload_n (pc := 16) 1 (mx_dd dd_X12_readCommand 8 (16, .aload_n 0, 1) rfl) rfl rfl ?_
    refine mx_getI (pc := 17) mx_fl_X12_40 g3 rfl (mx_dd dd_X12_readCommand 9 (17, .getfield 40, 3) rfl) ?_
    refine mx_bipush (pc := 20) (v := (123 : Int32)) (mx_dd dd_X12_readCommand 10 (20, .bipush 123, 2) rfl) (by decide) ?_
    refine mx_icmp_ne (pc := 22) 34 (mx_dd dd_X12_readCommand 11 (22, .if_icmp .ne 12, 3) rfl) rfl (fun c22 => ?_) (fun c22 => ?_)
    · have P := P.1 c22
      refine mx_aload_n (pc := 34) 1 (mx_dd dd_X12_readCommand 17 (34, .aload_n 0, 1) rfl) rfl rfl ?_
      refine mx_ldcS (pc := 35) (i := 13) rfl (by decide) (mx_dd dd_X12_readCommand 18 (35, .ldc 197, 2) rfl) ?_
      refine mx_cVI (pc := 37) (Y := mY_X12_isWord) (As := [.ref _]) mx_ml_X12_74 mx_y_X12_isWord rfl g3 (by decide) rfl (by decide) rfl (mx_dd dd_X12_readCommand 19 (37, .invokevirtual 74, 3) rfl) g1 (by decide) P (fun v2 h2 P => ?_)
      refine mx_if_eq (pc := 40) 52 (mx_dd dd_X12_readCommand 20 (40, .ifCond .eq 12, 3) rfl) rfl (fun c40 => ?_) (fun c40 => ?_)
      · have P := P.1 c40
        refine mx_aload_n (pc := 52) 1 (mx_dd dd_X12_readCommand 26 (52, .aload_n 0, 1) rfl) rfl rfl ?_
        refine mx_ldcS (pc := 53) (i := 14) rfl (by decide) (mx_dd dd_X12_readCommand 27 (53, .ldc 202, 2) rfl) ?_
        obtain ⟨g4, P⟩ := P
        refine mx_cVI (pc := 55) (Y := mY_X12_isWord) (As := [.ref _]) mx_ml_X12_74 mx_y_X12_isWord rfl g4 (by decide) rfl (by decide) rfl (mx_dd dd_X12_readCommand 28 (55, .invokevirtual 74, 3) rfl) g1 (by decide) P (fun v3 h3 P => ?_)
        refine mx_if_eq (pc := 58) 70 (mx_dd dd_X12_readCommand 29 (58, .ifCond .eq 12, 3) rfl) rfl (fun c58 => ?_) (fun c58 => ?_)
        · have P := P.1 c58
          refine mx_aload_n (pc := 70) 1 (mx_dd dd_X12_readCommand 35 (70, .aload_n 0, 1) rfl) rfl rfl ?_
          refine mx_ldcS (pc := 71) (i := 15) rfl (by decide) (mx_dd dd_X12_readCommand 36 (71, .ldc 207, 2) rfl) ?_
          obtain ⟨g5, P⟩ := P
          refine mx_cVI (pc := 73) (Y := mY_X12_isWord) (As := [.ref _]) mx_ml_X12_74 mx_y_X12_isWord rfl g5 (by decide) rfl (by decide) rfl (mx_dd dd_X12_readCommand 37 (73, .invokevirtual 74, 3) rfl) g1 (by decide) P (fun v4 h4 P => ?_)
          refine mx_if_eq (pc := 76) 88 (mx_dd dd_X12_readCommand 38 (76, .ifCond .eq 12, 3) rfl) rfl (fun c76 => ?_) (fun c76 => ?_)
          · have P := P.1 c76
            refine mx_aload_n (pc := 88) 1 (mx_dd dd_X12_readCommand 44 (88, .aload_n 0, 1) rfl) rfl rfl ?_
            refine mx_iload_n (pc := 89) 0 (mx_dd dd_X12_readCommand 45 (89, .iload_n 2, 1) rfl) rfl rfl ?_
            obtain ⟨g6, P⟩ := P
            refine mx_cVV (pc := 90) (Y := mY_X12_readPlain) (As := [.int _]) mx_ml_X12_212 mx_y_X12_readPlain rfl g6 (by decide) rfl (by decide) rfl (mx_dd dd_X12_readCommand 46 (90, .invokevirtual 212, 3) rfl) g1 (by decide) P (fun h5 P => ?_)
            refine mx_sel [1, 0] rfl ?_
            exact P
          · have P := P.2 c76
            refine mx_aload_n (pc := 79) 1 (mx_dd dd_X12_readCommand 39 (79, .aload_n 0, 1) rfl) rfl rfl ?_
            refine mx_iload_n (pc := 80) 0 (mx_dd dd_X12_readCommand 40 (80, .iload_n 2, 1) rfl) rfl rfl ?_
            refine mx_iload_n (pc := 81) 2 (mx_dd dd_X12_readCommand 41 (81, .iload_n 1, 1) rfl) rfl rfl ?_
            obtain ⟨g7, P⟩ := P
            refine mx_cVV (pc := 82) (Y := mY_X12_readDef) (As := [.int _, .int _]) mx_ml_X12_209 mx_y_X12_readDef rfl g7 (by decide) rfl (by decide) rfl (mx_dd dd_X12_readCommand 42 (82, .invokevirtual 209, 3) rfl) g1 (by decide) P (fun h6 P => ?_)
            refine mx_goto (pc := 85) 93 (mx_dd dd_X12_readCommand 43 (85, .goto 8, 3) rfl) rfl ?_
            refine mx_sel [1, 0] rfl ?_
            exact P
        · have P := P.2 c58
          refine mx_aload_n (pc := 61) 1 (mx_dd dd_X12_readCommand 30 (61, .aload_n 0, 1) rfl) rfl rfl ?_
          refine mx_iload_n (pc := 62) 0 (mx_dd dd_X12_readCommand 31 (62, .iload_n 2, 1) rfl) rfl rfl ?_
          refine mx_iload_n (pc := 63) 2 (mx_dd dd_X12_readCommand 32 (63, .iload_n 1, 1) rfl) rfl rfl ?_
          obtain ⟨g8, P⟩ := P
          refine mx_cVV (pc := 64) (Y := mY_X12_readWhile) (As := [.int _, .int _]) mx_ml_X12_204 mx_y_X12_readWhile rfl g8 (by decide) rfl (by decide) rfl (mx_dd dd_X12_readCommand 33 (64, .invokevirtual 204, 3) rfl) g1 (by decide) P (fun h7 P => ?_)
          refine mx_goto (pc := 67) 93 (mx_dd dd_X12_readCommand 34 (67, .goto 26, 3) rfl) rfl ?_
          refine mx_sel [1, 0] rfl ?_
          exact P
      · have P := P.2 c40
        refine mx_aload_n (pc := 43) 1 (mx_dd dd_X12_readCommand 21 (43, .aload_n 0, 1) rfl) rfl rfl ?_
        refine mx_iload_n (pc := 44) 0 (mx_dd dd_X12_readCommand 22 (44, .iload_n 2, 1) rfl) rfl rfl ?_
        refine mx_iload_n (pc := 45) 2 (mx_dd dd_X12_readCommand 23 (45, .iload_n 1, 1) rfl) rfl rfl ?_
        obtain ⟨g9, P⟩ := P
        refine mx_cVV (pc := 46) (Y := mY_X12_readIf) (As := [.int _, .int _]) mx_ml_X12_199 mx_y_X12_readIf rfl g9 (by decide) rfl (by decide) rfl (mx_dd dd_X12_readCommand 24 (46, .invokevirtual 199, 3) rfl) g1 (by decide) P (fun h8 P => ?_)
        refine mx_goto (pc := 49) 93 (mx_dd dd_X12_readCommand 25 (49, .goto 44, 3) rfl) rfl ?_
        refine mx_sel [1, 0] rfl ?_
        exact P
    · have P := P.2 c22
      refine mx_sel [1, 2, 0] rfl ?_
      exact P
theorem b_X12_readCommand_25 {d : Nat} {h : mxH} {Q : mxRes → mxH → Prop} (x0 : Nat) (x1 : Int32) (x2 : Int32)
    (P : 1 ≤ d ∧ hpK h x0 = 12 ∧ mx_SM mY_X12_readBraces (d - 1) [.ref x0, .int x2, .int x1] h (mx_KV (fun h1 => mx_SX mY_X12_readCommand d 93 [(0, .ref x0), (2, .int x2)] [] h1 Q) (mx_XX mY_X12_readCommand Q))) : mx_SX mY_X12_readCommand d 25 [(0, .ref x0), (1, .int x1), (2, .int x2)] [] h Q := by
  refine mx_aload_n (pc := 25) 0 (mx_dd dd_X12_readCommand 12 (25, .aload_n 0, 1) rfl) rfl rfl ?_
  refine mx_iload_n (pc := 26) 2 (mx_dd dd_X12_readCommand 13 (26, .iload_n 2, 1) rfl) rfl rfl ?_
  refine mx_iload_n (pc := 27) 1 (mx_dd dd_X12_readCommand 14 (27, .iload_n 1, 1) rfl) rfl rfl ?_
  obtain ⟨g1, P⟩ := P
  obtain ⟨g2, P⟩ := P
  refine mx_cVV (pc := 28) (Y := mY_X12_readBraces) (As := [.int _, .int _]) mx_ml_X12_193 mx_y_X12_readBraces rfl g2 (by decide) rfl (by decide) rfl (mx_dd dd_X12_readCommand 15 (28, .invokevirtual 193, 3) rfl) g1 (by decide) P (fun h1 P => ?_)
  refine mx_goto (pc := 31) 93 (mx_dd dd_X12_readCommand 16 (31, .goto 62, 3) rfl) rfl ?_
  refine mx_sel [0, 2] rfl ?_
  exact P
theorem b_X12_readCommand_93 {d : Nat} {h : mxH} {Q : mxRes → mxH → Prop} (x0 : Nat) (x2 : Int32)
    (P : 1 ≤ d ∧ hpK h x0 = 12 ∧ mx_SM mY_X12_readRedirections (d - 1) [.ref x0, .int x2] h (mx_KV (fun h1 => Q (.inl (some (.int x2))) h1) (mx_XX mY_X12_readCommand Q))) : mx_SX mY_X12_readCommand d 93 [(0, .ref x0), (2, .int x2)] [] h Q := by
  refine mx_aload_n (pc := 93) 0 (mx_dd dd_X12_readCommand 47 (93, .aload_n 0, 1) rfl) rfl rfl ?_
  refine mx_iload_n (pc := 94) 1 (mx_dd dd_X12_readCommand 48 (94, .iload_n 2, 1) rfl) rfl rfl ?_
  obtain ⟨g1, P⟩ := P
  obtain ⟨g2, P⟩ := P
  refine mx_cVV (pc := 95) (Y := mY_X12_readRedirections) (As := [.int _]) mx_ml_X12_215 mx_y_X12_readRedirections rfl g2 (by decide) rfl (by decide) rfl (mx_dd dd_X12_readCommand 49 (95, .invokevirtual 215, 3) rfl) g1 (by decide) P (fun h1 P => ?_)
  refine mx_iload_n (pc := 98) 1 (mx_dd dd_X12_readCommand 50 (98, .iload_n 2, 1) rfl) rfl rfl ?_
  exact mx_ireturn (pc := 99) (mx_dd dd_X12_readCommand 51 (99, .ireturn, 1) rfl) rfl rfl P
theorem b_X12_readBraces {d : Nat} {h : mxH} {Q : mxRes → mxH → Prop} (x0 : Nat) (x1 : Int32) (x2 : Int32)
    (P : hpK h x0 = 12 ∧ ((¬ (hpI h x0 7) = (40 : Int32) → 1 ≤ d ∧ mx_SM mY_X12_opens (d - 1) [.ref x0, .int x2] h (mx_KV (fun h1 => hpK h1 x0 = 12 ∧ ∃ b1 : Nat, hpR h1 x0 41 = some b1 ∧ ((¬ (125 : Int32) = (41 : Int32) → hpK h1 b1 = 14 ∧ vp_in x1 (hpZ h1 b1) ∧ ∀ h2 : mxH, h2 = hsI h1 b1 x1.toNatClampNeg (5 : Int32) → mx_SM mY_X12_passes (d - 1) [.ref x0] h2 (mx_KV (fun h3 => hpK h3 x0 = 12 ∧ ∃ b2 : Nat, hpR h3 x0 42 = some b2 ∧ mx_SM mY_X12_readScript (d - 1) [.ref x0, .int (x2 + (1 : Int32))] h3 (mx_KI (fun v1 h4 => hpK h4 b2 = 14 ∧ vp_in x1 (hpZ h4 b2) ∧ ∀ h5 : mxH, h5 = hsI h4 b2 x1.toNatClampNeg v1 → hpK h5 x0 = 12 ∧ mx_SM mY_X12_needs (d - 1) [.ref x0, .int (125 : Int32)] h5 (mx_KV (fun h6 => Q (.inl none) h6) (mx_XX mY_X12_readBraces Q))) (mx_XX mY_X12_readBraces Q))) (mx_XX mY_X12_readBraces Q))) ∧ ((125 : Int32) = (41 : Int32) → hpK h1 b1 = 14 ∧ vp_in x1 (hpZ h1 b1) ∧ ∀ h7 : mxH, h7 = hsI h1 b1 x1.toNatClampNeg (4 : Int32) → mx_SM mY_X12_passes (d - 1) [.ref x0] h7 (mx_KV (fun h8 => hpK h8 x0 = 12 ∧ ∃ b3 : Nat, hpR h8 x0 42 = some b3 ∧ mx_SM mY_X12_readScript (d - 1) [.ref x0, .int (x2 + (1 : Int32))] h8 (mx_KI (fun v2 h9 => hpK h9 b3 = 14 ∧ vp_in x1 (hpZ h9 b3) ∧ ∀ h10 : mxH, h10 = hsI h9 b3 x1.toNatClampNeg v2 → hpK h10 x0 = 12 ∧ mx_SM mY_X12_needs (d - 1) [.ref x0, .int (125 : Int32)] h10 (mx_KV (fun h11 => Q (.inl none) h11) (mx_XX mY_X12_readBraces Q))) (mx_XX mY_X12_readBraces Q))) (mx_XX mY_X12_readBraces Q))))) (mx_XX mY_X12_readBraces Q))) ∧ ((hpI h x0 7) = (40 : Int32) → 1 ≤ d ∧ mx_SM mY_X12_opens (d - 1) [.ref x0, .int x2] h (mx_KV (fun h12 => hpK h12 x0 = 12 ∧ ∃ b4 : Nat, hpR h12 x0 41 = some b4 ∧ ((¬ (41 : Int32) = (41 : Int32) → hpK h12 b4 = 14 ∧ vp_in x1 (hpZ h12 b4) ∧ ∀ h13 : mxH, h13 = hsI h12 b4 x1.toNatClampNeg (5 : Int32) → mx_SM mY_X12_passes (d - 1) [.ref x0] h13 (mx_KV (fun h14 => hpK h14 x0 = 12 ∧ ∃ b5 : Nat, hpR h14 x0 42 = some b5 ∧ mx_SM mY_X12_readScript (d - 1) [.ref x0, .int (x2 + (1 : Int32))] h14 (mx_KI (fun v3 h15 => hpK h15 b5 = 14 ∧ vp_in x1 (hpZ h15 b5) ∧ ∀ h16 : mxH, h16 = hsI h15 b5 x1.toNatClampNeg v3 → hpK h16 x0 = 12 ∧ mx_SM mY_X12_needs (d - 1) [.ref x0, .int (41 : Int32)] h16 (mx_KV (fun h17 => Q (.inl none) h17) (mx_XX mY_X12_readBraces Q))) (mx_XX mY_X12_readBraces Q))) (mx_XX mY_X12_readBraces Q))) ∧ ((41 : Int32) = (41 : Int32) → hpK h12 b4 = 14 ∧ vp_in x1 (hpZ h12 b4) ∧ ∀ h18 : mxH, h18 = hsI h12 b4 x1.toNatClampNeg (4 : Int32) → mx_SM mY_X12_passes (d - 1) [.ref x0] h18 (mx_KV (fun h19 => hpK h19 x0 = 12 ∧ ∃ b6 : Nat, hpR h19 x0 42 = some b6 ∧ mx_SM mY_X12_readScript (d - 1) [.ref x0, .int (x2 + (1 : Int32))] h19 (mx_KI (fun v4 h20 => hpK h20 b6 = 14 ∧ vp_in x1 (hpZ h20 b6) ∧ ∀ h21 : mxH, h21 = hsI h20 b6 x1.toNatClampNeg v4 → hpK h21 x0 = 12 ∧ mx_SM mY_X12_needs (d - 1) [.ref x0, .int (41 : Int32)] h21 (mx_KV (fun h22 => Q (.inl none) h22) (mx_XX mY_X12_readBraces Q))) (mx_XX mY_X12_readBraces Q))) (mx_XX mY_X12_readBraces Q))))) (mx_XX mY_X12_readBraces Q))))) : mx_SM mY_X12_readBraces d [.ref x0, .int x1, .int x2] h Q := by
  refine mx_SM_of (by decide) (Nat.le_of_ble_eq_true rfl) ?_
  show mx_SX mY_X12_readBraces d 0 [(0, .ref x0), (1, .int x1), (2, .int x2)] [] h Q
  refine mx_aload_n (pc := 0) 0 (mx_dd dd_X12_readBraces 0 (0, .aload_n 0, 1) rfl) rfl rfl ?_
  obtain ⟨g1, P⟩ := P
  refine mx_getI (pc := 1) mx_fl_X12_40 g1 rfl (mx_dd dd_X12_readBraces 1 (1, .getfield 40, 3) rfl) ?_
  refine mx_bipush (pc := 4) (v := (40 : Int32)) (mx_dd dd_X12_readBraces 2 (4, .bipush 40, 2) rfl) (by decide) ?_
  refine mx_icmp_ne (pc := 6) 14 (mx_dd dd_X12_readBraces 3 (6, .if_icmp .ne 8, 3) rfl) rfl (fun c6 => ?_) (fun c6 => ?_)
  · have P := P.1 c6
    refine mx_bipush (pc := 14) (v := (125 : Int32)) (mx_dd dd_X12_readBraces 6 (14, .bipush 125, 2) rfl) (by decide) ?_
    refine mx_istore_n (pc := 16) (mx_dd dd_X12_readBraces 7 (16, .istore_n 3, 1) rfl) rfl (by decide) (lv' := [(3, _), (0, _), (1, _), (2, _)]) rfl ?_
    refine mx_aload_n (pc := 17) 1 (mx_dd dd_X12_readBraces 8 (17, .aload_n 0, 1) rfl) rfl rfl ?_
    refine mx_iload_n (pc := 18) 3 (mx_dd dd_X12_readBraces 9 (18, .iload_n 2, 1) rfl) rfl rfl ?_
    obtain ⟨g2, P⟩ := P
    refine mx_cVV (pc := 19) (Y := mY_X12_opens) (As := [.int _]) mx_ml_X12_218 mx_y_X12_opens rfl g1 (by decide) rfl (by decide) rfl (mx_dd dd_X12_readBraces 10 (19, .invokevirtual 218, 3) rfl) g2 (by decide) P (fun h1 P => ?_)
    refine mx_aload_n (pc := 22) 1 (mx_dd dd_X12_readBraces 11 (22, .aload_n 0, 1) rfl) rfl rfl ?_
    obtain ⟨g3, P⟩ := P
    obtain ⟨b1, g4, P⟩ := P
    refine mx_getR (pc := 23) mx_fl_X12_137 g3 rfl g4 (mx_dd dd_X12_readBraces 12 (23, .getfield 137, 3) rfl) ?_
    refine mx_iload_n (pc := 26) 2 (mx_dd dd_X12_readBraces 13 (26, .iload_n 1, 1) rfl) rfl rfl ?_
    refine mx_iload_n (pc := 27) 0 (mx_dd dd_X12_readBraces 14 (27, .iload_n 3, 1) rfl) rfl rfl ?_
    refine mx_bipush (pc := 28) (v := (41 : Int32)) (mx_dd dd_X12_readBraces 15 (28, .bipush 41, 2) rfl) (by decide) ?_
    refine mx_icmp_ne (pc := 30) 37 (mx_dd dd_X12_readBraces 16 (30, .if_icmp .ne 7, 3) rfl) rfl (fun c30 => ?_) (fun c30 => ?_)
    · have P := P.1 c30
      refine mx_iconst (pc := 37) (v := (5 : Int32)) (mx_dd dd_X12_readBraces 19 (37, .iconst 5, 1) rfl) (by decide) ?_
      obtain ⟨g5, P⟩ := P
      obtain ⟨g6, P⟩ := P
      refine mx_iast (pc := 38) g5 g6 (mx_dd dd_X12_readBraces 20 (38, .iastore, 1) rfl) ?_
      have P := P _ rfl
      refine mx_aload_n (pc := 39) 1 (mx_dd dd_X12_readBraces 21 (39, .aload_n 0, 1) rfl) rfl rfl ?_
      refine mx_cVV (pc := 40) (Y := mY_X12_passes) (As := []) mx_ml_X12_78 mx_y_X12_passes rfl g3 (by decide) rfl (by decide) rfl (mx_dd dd_X12_readBraces 22 (40, .invokevirtual 78, 3) rfl) g2 (by decide) P (fun h3 P => ?_)
      refine mx_aload_n (pc := 43) 1 (mx_dd dd_X12_readBraces 23 (43, .aload_n 0, 1) rfl) rfl rfl ?_
      obtain ⟨g7, P⟩ := P
      obtain ⟨b2, g8, P⟩ := P
      refine mx_getR (pc := 44) mx_fl_X12_140 g7 rfl g8 (mx_dd dd_X12_readBraces 24 (44, .getfield 140, 3) rfl) ?_
      refine mx_iload_n (pc := 47) 2 (mx_dd dd_X12_readBraces 25 (47, .iload_n 1, 1) rfl) rfl rfl ?_
      refine mx_aload_n (pc := 48) 1 (mx_dd dd_X12_readBraces 26 (48, .aload_n 0, 1) rfl) rfl rfl ?_
      refine mx_iload_n (pc := 49) 3 (mx_dd dd_X12_readBraces 27 (49, .iload_n 2, 1) rfl) rfl rfl ?_
      refine mx_iconst (pc := 50) (v := (1 : Int32)) (mx_dd dd_X12_readBraces 28 (50, .iconst 1, 1) rfl) (by decide) ?_
      refine mx_iadd (pc := 51) (mx_dd dd_X12_readBraces 29 (51, .iadd, 1) rfl) ?_
      refine mx_cVI (pc := 52) (Y := mY_X12_readScript) (As := [.int _]) mx_ml_X12_221 mx_y_X12_readScript rfl g7 (by decide) rfl (by simp [Value.category]) rfl (mx_dd dd_X12_readBraces 30 (52, .invokevirtual 221, 3) rfl) g2 (by decide) P (fun v1 h4 P => ?_)
      obtain ⟨g9, P⟩ := P
      obtain ⟨g10, P⟩ := P
      refine mx_iast (pc := 55) g9 g10 (mx_dd dd_X12_readBraces 31 (55, .iastore, 1) rfl) ?_
      have P := P _ rfl
      refine mx_aload_n (pc := 56) 1 (mx_dd dd_X12_readBraces 32 (56, .aload_n 0, 1) rfl) rfl rfl ?_
      refine mx_iload_n (pc := 57) 0 (mx_dd dd_X12_readBraces 33 (57, .iload_n 3, 1) rfl) rfl rfl ?_
      obtain ⟨g11, P⟩ := P
      refine mx_cVV (pc := 58) (Y := mY_X12_needs) (As := [.int _]) mx_ml_X12_181 mx_y_X12_needs rfl g11 (by decide) rfl (by decide) rfl (mx_dd dd_X12_readBraces 34 (58, .invokevirtual 181, 3) rfl) g2 (by decide) P (fun h6 P => ?_)
      exact mx_return (pc := 61) (mx_dd dd_X12_readBraces 35 (61, .return_, 1) rfl) rfl P
    · have P := P.2 c30
      refine mx_iconst (pc := 33) (v := (4 : Int32)) (mx_dd dd_X12_readBraces 17 (33, .iconst 4, 1) rfl) (by decide) ?_
      refine mx_goto (pc := 34) 38 (mx_dd dd_X12_readBraces 18 (34, .goto 4, 3) rfl) rfl ?_
      obtain ⟨g12, P⟩ := P
      obtain ⟨g13, P⟩ := P
      refine mx_iast (pc := 38) g12 g13 (mx_dd dd_X12_readBraces 20 (38, .iastore, 1) rfl) ?_
      have P := P _ rfl
      refine mx_aload_n (pc := 39) 1 (mx_dd dd_X12_readBraces 21 (39, .aload_n 0, 1) rfl) rfl rfl ?_
      refine mx_cVV (pc := 40) (Y := mY_X12_passes) (As := []) mx_ml_X12_78 mx_y_X12_passes rfl g3 (by decide) rfl (by decide) rfl (mx_dd dd_X12_readBraces 22 (40, .invokevirtual 78, 3) rfl) g2 (by decide) P (fun h8 P => ?_)
      refine mx_aload_n (pc := 43) 1 (mx_dd dd_X12_readBraces 23 (43, .aload_n 0, 1) rfl) rfl rfl ?_
      obtain ⟨g14, P⟩ := P
      obtain ⟨b3, g15, P⟩ := P
      refine mx_getR (pc := 44) mx_fl_X12_140 g14 rfl g15 (mx_dd dd_X12_readBraces 24 (44, .getfield 140, 3) rfl) ?_
      refine mx_iload_n (pc := 47) 2 (mx_dd dd_X12_readBraces 25 (47, .iload_n 1, 1) rfl) rfl rfl ?_
      refine mx_aload_n (pc := 48) 1 (mx_dd dd_X12_readBraces 26 (48, .aload_n 0, 1) rfl) rfl rfl ?_
      refine mx_iload_n (pc := 49) 3 (mx_dd dd_X12_readBraces 27 (49, .iload_n 2, 1) rfl) rfl rfl ?_
      refine mx_iconst (pc := 50) (v := (1 : Int32)) (mx_dd dd_X12_readBraces 28 (50, .iconst 1, 1) rfl) (by decide) ?_
      refine mx_iadd (pc := 51) (mx_dd dd_X12_readBraces 29 (51, .iadd, 1) rfl) ?_
      refine mx_cVI (pc := 52) (Y := mY_X12_readScript) (As := [.int _]) mx_ml_X12_221 mx_y_X12_readScript rfl g14 (by decide) rfl (by simp [Value.category]) rfl (mx_dd dd_X12_readBraces 30 (52, .invokevirtual 221, 3) rfl) g2 (by decide) P (fun v2 h9 P => ?_)
      obtain ⟨g16, P⟩ := P
      obtain ⟨g17, P⟩ := P
      refine mx_iast (pc := 55) g16 g17 (mx_dd dd_X12_readBraces 31 (55, .iastore, 1) rfl) ?_
      have P := P _ rfl
      refine mx_aload_n (pc := 56) 1 (mx_dd dd_X12_readBraces 32 (56, .aload_n 0, 1) rfl) rfl rfl ?_
      refine mx_iload_n (pc := 57) 0 (mx_dd dd_X12_readBraces 33 (57, .iload_n 3, 1) rfl) rfl rfl ?_
      obtain ⟨g18, P⟩ := P
      refine mx_cVV (pc := 58) (Y := mY_X12_needs) (As := [.int _]) mx_ml_X12_181 mx_y_X12_needs rfl g18 (by decide) rfl (by decide) rfl (mx_dd dd_X12_readBraces 34 (58, .invokevirtual 181, 3) rfl) g2 (by decide) P (fun h11 P => ?_)
      exact mx_return (pc := 61) (mx_dd dd_X12_readBraces 35 (61, .return_, 1) rfl) rfl P
  · have P := P.2 c6
    refine mx_bipush (pc := 9) (v := (41 : Int32)) (mx_dd dd_X12_readBraces 4 (9, .bipush 41, 2) rfl) (by decide) ?_
    refine mx_goto (pc := 11) 16 (mx_dd dd_X12_readBraces 5 (11, .goto 5, 3) rfl) rfl ?_
    refine mx_istore_n (pc := 16) (mx_dd dd_X12_readBraces 7 (16, .istore_n 3, 1) rfl) rfl (by decide) (lv' := [(3, _), (0, _), (1, _), (2, _)]) rfl ?_
    refine mx_aload_n (pc := 17) 1 (mx_dd dd_X12_readBraces 8 (17, .aload_n 0, 1) rfl) rfl rfl ?_
    refine mx_iload_n (pc := 18) 3 (mx_dd dd_X12_readBraces 9 (18, .iload_n 2, 1) rfl) rfl rfl ?_
    obtain ⟨g19, P⟩ := P
    refine mx_cVV (pc := 19) (Y := mY_X12_opens) (As := [.int _]) mx_ml_X12_218 mx_y_X12_opens rfl g1 (by decide) rfl (by decide) rfl (mx_dd dd_X12_readBraces 10 (19, .invokevirtual 218, 3) rfl) g19 (by decide) P (fun h12 P => ?_)
    refine mx_aload_n (pc := 22) 1 (mx_dd dd_X12_readBraces 11 (22, .aload_n 0, 1) rfl) rfl rfl ?_
    obtain ⟨g20, P⟩ := P
    obtain ⟨b4, g21, P⟩ := P
    refine mx_getR (pc := 23) mx_fl_X12_137 g20 rfl g21 (mx_dd dd_X12_readBraces 12 (23, .getfield 137, 3) rfl) ?_
    refine mx_iload_n (pc := 26) 2 (mx_dd dd_X12_readBraces 13 (26, .iload_n 1, 1) rfl) rfl rfl ?_
    refine mx_iload_n (pc := 27) 0 (mx_dd dd_X12_readBraces 14 (27, .iload_n 3, 1) rfl) rfl rfl ?_
    refine mx_bipush (pc := 28) (v := (41 : Int32)) (mx_dd dd_X12_readBraces 15 (28, .bipush 41, 2) rfl) (by decide) ?_
    refine mx_icmp_ne (pc := 30) 37 (mx_dd dd_X12_readBraces 16 (30, .if_icmp .ne 7, 3) rfl) rfl (fun c30 => ?_) (fun c30 => ?_)
    · have P := P.1 c30
      refine mx_iconst (pc := 37) (v := (5 : Int32)) (mx_dd dd_X12_readBraces 19 (37, .iconst 5, 1) rfl) (by decide) ?_
      obtain ⟨g22, P⟩ := P
      obtain ⟨g23, P⟩ := P
      refine mx_iast (pc := 38) g22 g23 (mx_dd dd_X12_readBraces 20 (38, .iastore, 1) rfl) ?_
      have P := P _ rfl
      refine mx_aload_n (pc := 39) 1 (mx_dd dd_X12_readBraces 21 (39, .aload_n 0, 1) rfl) rfl rfl ?_
      refine mx_cVV (pc := 40) (Y := mY_X12_passes) (As := []) mx_ml_X12_78 mx_y_X12_passes rfl g20 (by decide) rfl (by decide) rfl (mx_dd dd_X12_readBraces 22 (40, .invokevirtual 78, 3) rfl) g19 (by decide) P (fun h14 P => ?_)
      refine mx_aload_n (pc := 43) 1 (mx_dd dd_X12_readBraces 23 (43, .aload_n 0, 1) rfl) rfl rfl ?_
      obtain ⟨g24, P⟩ := P
      obtain ⟨b5, g25, P⟩ := P
      refine mx_getR (pc := 44) mx_fl_X12_140 g24 rfl g25 (mx_dd dd_X12_readBraces 24 (44, .getfield 140, 3) rfl) ?_
      refine mx_iload_n (pc := 47) 2 (mx_dd dd_X12_readBraces 25 (47, .iload_n 1, 1) rfl) rfl rfl ?_
      refine mx_aload_n (pc := 48) 1 (mx_dd dd_X12_readBraces 26 (48, .aload_n 0, 1) rfl) rfl rfl ?_
      refine mx_iload_n (pc := 49) 3 (mx_dd dd_X12_readBraces 27 (49, .iload_n 2, 1) rfl) rfl rfl ?_
      refine mx_iconst (pc := 50) (v := (1 : Int32)) (mx_dd dd_X12_readBraces 28 (50, .iconst 1, 1) rfl) (by decide) ?_
      refine mx_iadd (pc := 51) (mx_dd dd_X12_readBraces 29 (51, .iadd, 1) rfl) ?_
      refine mx_cVI (pc := 52) (Y := mY_X12_readScript) (As := [.int _]) mx_ml_X12_221 mx_y_X12_readScript rfl g24 (by decide) rfl (by simp [Value.category]) rfl (mx_dd dd_X12_readBraces 30 (52, .invokevirtual 221, 3) rfl) g19 (by decide) P (fun v3 h15 P => ?_)
      obtain ⟨g26, P⟩ := P
      obtain ⟨g27, P⟩ := P
      refine mx_iast (pc := 55) g26 g27 (mx_dd dd_X12_readBraces 31 (55, .iastore, 1) rfl) ?_
      have P := P _ rfl
      refine mx_aload_n (pc := 56) 1 (mx_dd dd_X12_readBraces 32 (56, .aload_n 0, 1) rfl) rfl rfl ?_
      refine mx_iload_n (pc := 57) 0 (mx_dd dd_X12_readBraces 33 (57, .iload_n 3, 1) rfl) rfl rfl ?_
      obtain ⟨g28, P⟩ := P
      refine mx_cVV (pc := 58) (Y := mY_X12_needs) (As := [.int _]) mx_ml_X12_181 mx_y_X12_needs rfl g28 (by decide) rfl (by decide) rfl (mx_dd dd_X12_readBraces 34 (58, .invokevirtual 181, 3) rfl) g19 (by decide) P (fun h17 P => ?_)
      exact mx_return (pc := 61) (mx_dd dd_X12_readBraces 35 (61, .return_, 1) rfl) rfl P
    · have P := P.2 c30
      refine mx_iconst (pc := 33) (v := (4 : Int32)) (mx_dd dd_X12_readBraces 17 (33, .iconst 4, 1) rfl) (by decide) ?_
      refine mx_goto (pc := 34) 38 (mx_dd dd_X12_readBraces 18 (34, .goto 4, 3) rfl) rfl ?_
      obtain ⟨g29, P⟩ := P
      obtain ⟨g30, P⟩ := P
      refine mx_iast (pc := 38) g29 g30 (mx_dd dd_X12_readBraces 20 (38, .iastore, 1) rfl) ?_
      have P := P _ rfl
      refine mx_aload_n (pc := 39) 1 (mx_dd dd_X12_readBraces 21 (39, .aload_n 0, 1) rfl) rfl rfl ?_
      refine mx_cVV (pc := 40) (Y := mY_X12_passes) (As := []) mx_ml_X12_78 mx_y_X12_passes rfl g20 (by decide) rfl (by decide) rfl (mx_dd dd_X12_readBraces 22 (40, .invokevirtual 78, 3) rfl) g19 (by decide) P (fun h19 P => ?_)
      refine mx_aload_n (pc := 43) 1 (mx_dd dd_X12_readBraces 23 (43, .aload_n 0, 1) rfl) rfl rfl ?_
      obtain ⟨g31, P⟩ := P
      obtain ⟨b6, g32, P⟩ := P
      refine mx_getR (pc := 44) mx_fl_X12_140 g31 rfl g32 (mx_dd dd_X12_readBraces 24 (44, .getfield 140, 3) rfl) ?_
      refine mx_iload_n (pc := 47) 2 (mx_dd dd_X12_readBraces 25 (47, .iload_n 1, 1) rfl) rfl rfl ?_
      refine mx_aload_n (pc := 48) 1 (mx_dd dd_X12_readBraces 26 (48, .aload_n 0, 1) rfl) rfl rfl ?_
      refine mx_iload_n (pc := 49) 3 (mx_dd dd_X12_readBraces 27 (49, .iload_n 2, 1) rfl) rfl rfl ?_
      refine mx_iconst (pc := 50) (v := (1 : Int32)) (mx_dd dd_X12_readBraces 28 (50, .iconst 1, 1) rfl) (by decide) ?_
      refine mx_iadd (pc := 51) (mx_dd dd_X12_readBraces 29 (51, .iadd, 1) rfl) ?_
      refine mx_cVI (pc := 52) (Y := mY_X12_readScript) (As := [.int _]) mx_ml_X12_221 mx_y_X12_readScript rfl g31 (by decide) rfl (by simp [Value.category]) rfl (mx_dd dd_X12_readBraces 30 (52, .invokevirtual 221, 3) rfl) g19 (by decide) P (fun v4 h20 P => ?_)
      obtain ⟨g33, P⟩ := P
      obtain ⟨g34, P⟩ := P
      refine mx_iast (pc := 55) g33 g34 (mx_dd dd_X12_readBraces 31 (55, .iastore, 1) rfl) ?_
      have P := P _ rfl
      refine mx_aload_n (pc := 56) 1 (mx_dd dd_X12_readBraces 32 (56, .aload_n 0, 1) rfl) rfl rfl ?_
      refine mx_iload_n (pc := 57) 0 (mx_dd dd_X12_readBraces 33 (57, .iload_n 3, 1) rfl) rfl rfl ?_
      obtain ⟨g35, P⟩ := P
      refine mx_cVV (pc := 58) (Y := mY_X12_needs) (As := [.int _]) mx_ml_X12_181 mx_y_X12_needs rfl g35 (by decide) rfl (by decide) rfl (mx_dd dd_X12_readBraces 34 (58, .invokevirtual 181, 3) rfl) g19 (by decide) P (fun h22 P => ?_)
      exact mx_return (pc := 61) (mx_dd dd_X12_readBraces 35 (61, .return_, 1) rfl) rfl P
theorem b_X12_readIf {d : Nat} {h : mxH} {Q : mxRes → mxH → Prop} (x0 : Nat) (x1 : Int32) (x2 : Int32)
    (P : 1 ≤ d ∧ hpK h x0 = 12 ∧ mx_SM mY_X12_opens (d - 1) [.ref x0, .int x2] h (mx_KV (fun h1 => hpK h1 x0 = 12 ∧ ∃ b1 : Nat, hpR h1 x0 41 = some b1 ∧ hpK h1 b1 = 14 ∧ vp_in x1 (hpZ h1 b1) ∧ ∀ h2 : mxH, h2 = hsI h1 b1 x1.toNatClampNeg (6 : Int32) → mx_SM mY_X12_passes (d - 1) [.ref x0] h2 (mx_KV (fun h3 => hpK h3 x0 = 12 ∧ ∃ b2 : Nat, hpR h3 x0 42 = some b2 ∧ mx_SM mY_X12_readChain (d - 1) [.ref x0, .int (x2 + (1 : Int32))] h3 (mx_KI (fun v1 h4 => hpK h4 b2 = 14 ∧ vp_in x1 (hpZ h4 b2) ∧ ∀ h5 : mxH, h5 = hsI h4 b2 x1.toNatClampNeg v1 → hpK h5 x0 = 12 ∧ mx_SM mY_X12_needs (d - 1) [.ref x0, .int (59 : Int32)] h5 (mx_KV (fun h6 => hpK h6 x0 = 12 ∧ mx_SM mY_X12_needsWord (d - 1) [.ref x0, .ref (3 + 8)] h6 (mx_KV (fun h7 => hpK h7 x0 = 12 ∧ ∃ b3 : Nat, hpR h7 x0 43 = some b3 ∧ mx_SM mY_X12_readScript (d - 1) [.ref x0, .int (x2 + (1 : Int32))] h7 (mx_KI (fun v2 h8 => hpK h8 b3 = 14 ∧ vp_in x1 (hpZ h8 b3) ∧ ∀ h9 : mxH, h9 = hsI h8 b3 x1.toNatClampNeg v2 → hpK h9 x0 = 12 ∧ mx_SM mY_X12_takesWord (d - 1) [.ref x0, .ref (3 + 9)] h9 (mx_KI (fun v3 h10 => ((v3 = 0 → mx_SX mY_X12_readIf d 77 [(0, .ref x0)] [] h10 Q) ∧ (¬ v3 = 0 → hpK h10 x0 = 12 ∧ ∃ b4 : Nat, hpR h10 x0 44 = some b4 ∧ mx_SM mY_X12_readScript (d - 1) [.ref x0, .int (x2 + (1 : Int32))] h10 (mx_KI (fun v4 h11 => hpK h11 b4 = 14 ∧ vp_in x1 (hpZ h11 b4) ∧ ∀ h12 : mxH, h12 = hsI h11 b4 x1.toNatClampNeg v4 → mx_SX mY_X12_readIf d 77 [(0, .ref x0)] [] h12 Q) (mx_XX mY_X12_readIf Q))))) (mx_XX mY_X12_readIf Q))) (mx_XX mY_X12_readIf Q))) (mx_XX mY_X12_readIf Q))) (mx_XX mY_X12_readIf Q))) (mx_XX mY_X12_readIf Q))) (mx_XX mY_X12_readIf Q))) (mx_XX mY_X12_readIf Q))) : mx_SM mY_X12_readIf d [.ref x0, .int x1, .int x2] h Q := by
  refine mx_SM_of (by decide) (Nat.le_of_ble_eq_true rfl) ?_
  show mx_SX mY_X12_readIf d 0 [(0, .ref x0), (1, .int x1), (2, .int x2)] [] h Q
  refine mx_aload_n (pc := 0) 0 (mx_dd dd_X12_readIf 0 (0, .aload_n 0, 1) rfl) rfl rfl ?_
  refine mx_iload_n (pc := 1) 2 (mx_dd dd_X12_readIf 1 (1, .iload_n 2, 1) rfl) rfl rfl ?_
  obtain ⟨g1, P⟩ := P
  obtain ⟨g2, P⟩ := P
  refine mx_cVV (pc := 2) (Y := mY_X12_opens) (As := [.int _]) mx_ml_X12_218 mx_y_X12_opens rfl g2 (by decide) rfl (by decide) rfl (mx_dd dd_X12_readIf 2 (2, .invokevirtual 218, 3) rfl) g1 (by decide) P (fun h1 P => ?_)
  refine mx_aload_n (pc := 5) 0 (mx_dd dd_X12_readIf 3 (5, .aload_n 0, 1) rfl) rfl rfl ?_
  obtain ⟨g3, P⟩ := P
  obtain ⟨b1, g4, P⟩ := P
  refine mx_getR (pc := 6) mx_fl_X12_137 g3 rfl g4 (mx_dd dd_X12_readIf 4 (6, .getfield 137, 3) rfl) ?_
  refine mx_iload_n (pc := 9) 1 (mx_dd dd_X12_readIf 5 (9, .iload_n 1, 1) rfl) rfl rfl ?_
  refine mx_bipush (pc := 10) (v := (6 : Int32)) (mx_dd dd_X12_readIf 6 (10, .bipush 6, 2) rfl) (by decide) ?_
  obtain ⟨g5, P⟩ := P
  obtain ⟨g6, P⟩ := P
  refine mx_iast (pc := 12) g5 g6 (mx_dd dd_X12_readIf 7 (12, .iastore, 1) rfl) ?_
  have P := P _ rfl
  refine mx_aload_n (pc := 13) 0 (mx_dd dd_X12_readIf 8 (13, .aload_n 0, 1) rfl) rfl rfl ?_
  refine mx_cVV (pc := 14) (Y := mY_X12_passes) (As := []) mx_ml_X12_78 mx_y_X12_passes rfl g3 (by decide) rfl (by decide) rfl (mx_dd dd_X12_readIf 9 (14, .invokevirtual 78, 3) rfl) g1 (by decide) P (fun h3 P => ?_)
  refine mx_aload_n (pc := 17) 0 (mx_dd dd_X12_readIf 10 (17, .aload_n 0, 1) rfl) rfl rfl ?_
  obtain ⟨g7, P⟩ := P
  obtain ⟨b2, g8, P⟩ := P
  refine mx_getR (pc := 18) mx_fl_X12_140 g7 rfl g8 (mx_dd dd_X12_readIf 11 (18, .getfield 140, 3) rfl) ?_
  refine mx_iload_n (pc := 21) 1 (mx_dd dd_X12_readIf 12 (21, .iload_n 1, 1) rfl) rfl rfl ?_
  refine mx_aload_n (pc := 22) 0 (mx_dd dd_X12_readIf 13 (22, .aload_n 0, 1) rfl) rfl rfl ?_
  refine mx_iload_n (pc := 23) 2 (mx_dd dd_X12_readIf 14 (23, .iload_n 2, 1) rfl) rfl rfl ?_
  refine mx_iconst (pc := 24) (v := (1 : Int32)) (mx_dd dd_X12_readIf 15 (24, .iconst 1, 1) rfl) (by decide) ?_
  refine mx_iadd (pc := 25) (mx_dd dd_X12_readIf 16 (25, .iadd, 1) rfl) ?_
  refine mx_cVI (pc := 26) (Y := mY_X12_readChain) (As := [.int _]) mx_ml_X12_178 mx_y_X12_readChain rfl g7 (by decide) rfl (by simp [Value.category]) rfl (mx_dd dd_X12_readIf 17 (26, .invokevirtual 178, 3) rfl) g1 (by decide) P (fun v1 h4 P => ?_)
  obtain ⟨g9, P⟩ := P
  obtain ⟨g10, P⟩ := P
  refine mx_iast (pc := 29) g9 g10 (mx_dd dd_X12_readIf 18 (29, .iastore, 1) rfl) ?_
  have P := P _ rfl
  refine mx_aload_n (pc := 30) 0 (mx_dd dd_X12_readIf 19 (30, .aload_n 0, 1) rfl) rfl rfl ?_
  refine mx_bipush (pc := 31) (v := (59 : Int32)) (mx_dd dd_X12_readIf 20 (31, .bipush 59, 2) rfl) (by decide) ?_
  obtain ⟨g11, P⟩ := P
  refine mx_cVV (pc := 33) (Y := mY_X12_needs) (As := [.int _]) mx_ml_X12_181 mx_y_X12_needs rfl g11 (by decide) rfl (by decide) rfl (mx_dd dd_X12_readIf 21 (33, .invokevirtual 181, 3) rfl) g1 (by decide) P (fun h6 P => ?_)
  refine mx_aload_n (pc := 36) 0 (mx_dd dd_X12_readIf 22 (36, .aload_n 0, 1) rfl) rfl rfl ?_
  refine mx_ldcS (pc := 37) (i := 8) rfl (by decide) (mx_dd dd_X12_readIf 23 (37, .ldc 162, 2) rfl) ?_
  obtain ⟨g12, P⟩ := P
  refine mx_cVV (pc := 39) (Y := mY_X12_needsWord) (As := [.ref _]) mx_ml_X12_224 mx_y_X12_needsWord rfl g12 (by decide) rfl (by decide) rfl (mx_dd dd_X12_readIf 24 (39, .invokevirtual 224, 3) rfl) g1 (by decide) P (fun h7 P => ?_)
  refine mx_aload_n (pc := 42) 0 (mx_dd dd_X12_readIf 25 (42, .aload_n 0, 1) rfl) rfl rfl ?_
  obtain ⟨g13, P⟩ := P
  obtain ⟨b3, g14, P⟩ := P
  refine mx_getR (pc := 43) mx_fl_X12_143 g13 rfl g14 (mx_dd dd_X12_readIf 26 (43, .getfield 143, 3) rfl) ?_
  refine mx_iload_n (pc := 46) 1 (mx_dd dd_X12_readIf 27 (46, .iload_n 1, 1) rfl) rfl rfl ?_
  refine mx_aload_n (pc := 47) 0 (mx_dd dd_X12_readIf 28 (47, .aload_n 0, 1) rfl) rfl rfl ?_
  refine mx_iload_n (pc := 48) 2 (mx_dd dd_X12_readIf 29 (48, .iload_n 2, 1) rfl) rfl rfl ?_
  refine mx_iconst (pc := 49) (v := (1 : Int32)) (mx_dd dd_X12_readIf 30 (49, .iconst 1, 1) rfl) (by decide) ?_
  refine mx_iadd (pc := 50) (mx_dd dd_X12_readIf 31 (50, .iadd, 1) rfl) ?_
  refine mx_cVI (pc := 51) (Y := mY_X12_readScript) (As := [.int _]) mx_ml_X12_221 mx_y_X12_readScript rfl g13 (by decide) rfl (by simp [Value.category]) rfl (mx_dd dd_X12_readIf 32 (51, .invokevirtual 221, 3) rfl) g1 (by decide) P (fun v2 h8 P => ?_)
  obtain ⟨g15, P⟩ := P
  obtain ⟨g16, P⟩ := P
  refine mx_iast (pc := 54) g15 g16 (mx_dd dd_X12_readIf 33 (54, .iastore, 1) rfl) ?_
  have P := P _ rfl
  refine mx_aload_n (pc := 55) 0 (mx_dd dd_X12_readIf 34 (55, .aload_n 0, 1) rfl) rfl rfl ?_
  refine mx_ldcS (pc := 56) (i := 9) rfl (by decide) (mx_dd dd_X12_readIf 35 (56, .ldc 164, 2) rfl) ?_
  obtain ⟨g17, P⟩ := P
  refine mx_cVI (pc := 58) (Y := mY_X12_takesWord) (As := [.ref _]) mx_ml_X12_88 mx_y_X12_takesWord rfl g17 (by decide) rfl (by decide) rfl (mx_dd dd_X12_readIf 36 (58, .invokevirtual 88, 3) rfl) g1 (by decide) P (fun v3 h10 P => ?_)
  refine mx_if_eq (pc := 61) 77 (mx_dd dd_X12_readIf 37 (61, .ifCond .eq 16, 3) rfl) rfl (fun c61 => ?_) (fun c61 => ?_)
  · have P := P.1 c61
    refine mx_sel [0] rfl ?_
    exact P
  · have P := P.2 c61
    refine mx_aload_n (pc := 64) 0 (mx_dd dd_X12_readIf 38 (64, .aload_n 0, 1) rfl) rfl rfl ?_
    obtain ⟨g18, P⟩ := P
    obtain ⟨b4, g19, P⟩ := P
    refine mx_getR (pc := 65) mx_fl_X12_146 g18 rfl g19 (mx_dd dd_X12_readIf 39 (65, .getfield 146, 3) rfl) ?_
    refine mx_iload_n (pc := 68) 1 (mx_dd dd_X12_readIf 40 (68, .iload_n 1, 1) rfl) rfl rfl ?_
    refine mx_aload_n (pc := 69) 0 (mx_dd dd_X12_readIf 41 (69, .aload_n 0, 1) rfl) rfl rfl ?_
    refine mx_iload_n (pc := 70) 2 (mx_dd dd_X12_readIf 42 (70, .iload_n 2, 1) rfl) rfl rfl ?_
    refine mx_iconst (pc := 71) (v := (1 : Int32)) (mx_dd dd_X12_readIf 43 (71, .iconst 1, 1) rfl) (by decide) ?_
    refine mx_iadd (pc := 72) (mx_dd dd_X12_readIf 44 (72, .iadd, 1) rfl) ?_
    refine mx_cVI (pc := 73) (Y := mY_X12_readScript) (As := [.int _]) mx_ml_X12_221 mx_y_X12_readScript rfl g18 (by decide) rfl (by simp [Value.category]) rfl (mx_dd dd_X12_readIf 45 (73, .invokevirtual 221, 3) rfl) g1 (by decide) P (fun v4 h11 P => ?_)
    obtain ⟨g20, P⟩ := P
    obtain ⟨g21, P⟩ := P
    refine mx_iast (pc := 76) g20 g21 (mx_dd dd_X12_readIf 46 (76, .iastore, 1) rfl) ?_
    have P := P _ rfl
    refine mx_sel [0] rfl ?_
    exact P
theorem b_X12_readIf_77 {d : Nat} {h : mxH} {Q : mxRes → mxH → Prop} (x0 : Nat)
    (P : 1 ≤ d ∧ hpK h x0 = 12 ∧ mx_SM mY_X12_needsWord (d - 1) [.ref x0, .ref (3 + 10)] h (mx_KV (fun h1 => Q (.inl none) h1) (mx_XX mY_X12_readIf Q))) : mx_SX mY_X12_readIf d 77 [(0, .ref x0)] [] h Q := by
  refine mx_aload_n (pc := 77) 0 (mx_dd dd_X12_readIf 47 (77, .aload_n 0, 1) rfl) rfl rfl ?_
  refine mx_ldcS (pc := 78) (i := 10) rfl (by decide) (mx_dd dd_X12_readIf 48 (78, .ldc 166, 2) rfl) ?_
  obtain ⟨g1, P⟩ := P
  obtain ⟨g2, P⟩ := P
  refine mx_cVV (pc := 80) (Y := mY_X12_needsWord) (As := [.ref _]) mx_ml_X12_224 mx_y_X12_needsWord rfl g2 (by decide) rfl (by decide) rfl (mx_dd dd_X12_readIf 49 (80, .invokevirtual 224, 3) rfl) g1 (by decide) P (fun h1 P => ?_)
  exact mx_return (pc := 83) (mx_dd dd_X12_readIf 50 (83, .return_, 1) rfl) rfl P
theorem b_X12_readWhile {d : Nat} {h : mxH} {Q : mxRes → mxH → Prop} (x0 : Nat) (x1 : Int32) (x2 : Int32)
    (P : 1 ≤ d ∧ hpK h x0 = 12 ∧ mx_SM mY_X12_opens (d - 1) [.ref x0, .int x2] h (mx_KV (fun h1 => hpK h1 x0 = 12 ∧ ∃ b1 : Nat, hpR h1 x0 41 = some b1 ∧ hpK h1 b1 = 14 ∧ vp_in x1 (hpZ h1 b1) ∧ ∀ h2 : mxH, h2 = hsI h1 b1 x1.toNatClampNeg (7 : Int32) → mx_SM mY_X12_passes (d - 1) [.ref x0] h2 (mx_KV (fun h3 => hpK h3 x0 = 12 ∧ ∃ b2 : Nat, hpR h3 x0 42 = some b2 ∧ mx_SM mY_X12_readChain (d - 1) [.ref x0, .int (x2 + (1 : Int32))] h3 (mx_KI (fun v1 h4 => hpK h4 b2 = 14 ∧ vp_in x1 (hpZ h4 b2) ∧ ∀ h5 : mxH, h5 = hsI h4 b2 x1.toNatClampNeg v1 → hpK h5 x0 = 12 ∧ mx_SM mY_X12_needs (d - 1) [.ref x0, .int (59 : Int32)] h5 (mx_KV (fun h6 => hpK h6 x0 = 12 ∧ mx_SM mY_X12_needsWord (d - 1) [.ref x0, .ref (3 + 11)] h6 (mx_KV (fun h7 => hpK h7 x0 = 12 ∧ ∃ b3 : Nat, hpR h7 x0 43 = some b3 ∧ mx_SM mY_X12_readScript (d - 1) [.ref x0, .int (x2 + (1 : Int32))] h7 (mx_KI (fun v2 h8 => hpK h8 b3 = 14 ∧ vp_in x1 (hpZ h8 b3) ∧ ∀ h9 : mxH, h9 = hsI h8 b3 x1.toNatClampNeg v2 → hpK h9 x0 = 12 ∧ mx_SM mY_X12_needsWord (d - 1) [.ref x0, .ref (3 + 12)] h9 (mx_KV (fun h10 => Q (.inl none) h10) (mx_XX mY_X12_readWhile Q))) (mx_XX mY_X12_readWhile Q))) (mx_XX mY_X12_readWhile Q))) (mx_XX mY_X12_readWhile Q))) (mx_XX mY_X12_readWhile Q))) (mx_XX mY_X12_readWhile Q))) (mx_XX mY_X12_readWhile Q))) : mx_SM mY_X12_readWhile d [.ref x0, .int x1, .int x2] h Q := by
  refine mx_SM_of (by decide) (Nat.le_of_ble_eq_true rfl) ?_
  show mx_SX mY_X12_readWhile d 0 [(0, .ref x0), (1, .int x1), (2, .int x2)] [] h Q
  refine mx_aload_n (pc := 0) 0 (mx_dd dd_X12_readWhile 0 (0, .aload_n 0, 1) rfl) rfl rfl ?_
  refine mx_iload_n (pc := 1) 2 (mx_dd dd_X12_readWhile 1 (1, .iload_n 2, 1) rfl) rfl rfl ?_
  obtain ⟨g1, P⟩ := P
  obtain ⟨g2, P⟩ := P
  refine mx_cVV (pc := 2) (Y := mY_X12_opens) (As := [.int _]) mx_ml_X12_218 mx_y_X12_opens rfl g2 (by decide) rfl (by decide) rfl (mx_dd dd_X12_readWhile 2 (2, .invokevirtual 218, 3) rfl) g1 (by decide) P (fun h1 P => ?_)
  refine mx_aload_n (pc := 5) 0 (mx_dd dd_X12_readWhile 3 (5, .aload_n 0, 1) rfl) rfl rfl ?_
  obtain ⟨g3, P⟩ := P
  obtain ⟨b1, g4, P⟩ := P
  refine mx_getR (pc := 6) mx_fl_X12_137 g3 rfl g4 (mx_dd dd_X12_readWhile 4 (6, .getfield 137, 3) rfl) ?_
  refine mx_iload_n (pc := 9) 1 (mx_dd dd_X12_readWhile 5 (9, .iload_n 1, 1) rfl) rfl rfl ?_
  refine mx_bipush (pc := 10) (v := (7 : Int32)) (mx_dd dd_X12_readWhile 6 (10, .bipush 7, 2) rfl) (by decide) ?_
  obtain ⟨g5, P⟩ := P
  obtain ⟨g6, P⟩ := P
  refine mx_iast (pc := 12) g5 g6 (mx_dd dd_X12_readWhile 7 (12, .iastore, 1) rfl) ?_
  have P := P _ rfl
  refine mx_aload_n (pc := 13) 0 (mx_dd dd_X12_readWhile 8 (13, .aload_n 0, 1) rfl) rfl rfl ?_
  refine mx_cVV (pc := 14) (Y := mY_X12_passes) (As := []) mx_ml_X12_78 mx_y_X12_passes rfl g3 (by decide) rfl (by decide) rfl (mx_dd dd_X12_readWhile 9 (14, .invokevirtual 78, 3) rfl) g1 (by decide) P (fun h3 P => ?_)
  refine mx_aload_n (pc := 17) 0 (mx_dd dd_X12_readWhile 10 (17, .aload_n 0, 1) rfl) rfl rfl ?_
  obtain ⟨g7, P⟩ := P
  obtain ⟨b2, g8, P⟩ := P
  refine mx_getR (pc := 18) mx_fl_X12_140 g7 rfl g8 (mx_dd dd_X12_readWhile 11 (18, .getfield 140, 3) rfl) ?_
  refine mx_iload_n (pc := 21) 1 (mx_dd dd_X12_readWhile 12 (21, .iload_n 1, 1) rfl) rfl rfl ?_
  refine mx_aload_n (pc := 22) 0 (mx_dd dd_X12_readWhile 13 (22, .aload_n 0, 1) rfl) rfl rfl ?_
  refine mx_iload_n (pc := 23) 2 (mx_dd dd_X12_readWhile 14 (23, .iload_n 2, 1) rfl) rfl rfl ?_
  refine mx_iconst (pc := 24) (v := (1 : Int32)) (mx_dd dd_X12_readWhile 15 (24, .iconst 1, 1) rfl) (by decide) ?_
  refine mx_iadd (pc := 25) (mx_dd dd_X12_readWhile 16 (25, .iadd, 1) rfl) ?_
  refine mx_cVI (pc := 26) (Y := mY_X12_readChain) (As := [.int _]) mx_ml_X12_178 mx_y_X12_readChain rfl g7 (by decide) rfl (by simp [Value.category]) rfl (mx_dd dd_X12_readWhile 17 (26, .invokevirtual 178, 3) rfl) g1 (by decide) P (fun v1 h4 P => ?_)
  obtain ⟨g9, P⟩ := P
  obtain ⟨g10, P⟩ := P
  refine mx_iast (pc := 29) g9 g10 (mx_dd dd_X12_readWhile 18 (29, .iastore, 1) rfl) ?_
  have P := P _ rfl
  refine mx_aload_n (pc := 30) 0 (mx_dd dd_X12_readWhile 19 (30, .aload_n 0, 1) rfl) rfl rfl ?_
  refine mx_bipush (pc := 31) (v := (59 : Int32)) (mx_dd dd_X12_readWhile 20 (31, .bipush 59, 2) rfl) (by decide) ?_
  obtain ⟨g11, P⟩ := P
  refine mx_cVV (pc := 33) (Y := mY_X12_needs) (As := [.int _]) mx_ml_X12_181 mx_y_X12_needs rfl g11 (by decide) rfl (by decide) rfl (mx_dd dd_X12_readWhile 21 (33, .invokevirtual 181, 3) rfl) g1 (by decide) P (fun h6 P => ?_)
  refine mx_aload_n (pc := 36) 0 (mx_dd dd_X12_readWhile 22 (36, .aload_n 0, 1) rfl) rfl rfl ?_
  refine mx_ldcS (pc := 37) (i := 11) rfl (by decide) (mx_dd dd_X12_readWhile 23 (37, .ldc 168, 2) rfl) ?_
  obtain ⟨g12, P⟩ := P
  refine mx_cVV (pc := 39) (Y := mY_X12_needsWord) (As := [.ref _]) mx_ml_X12_224 mx_y_X12_needsWord rfl g12 (by decide) rfl (by decide) rfl (mx_dd dd_X12_readWhile 24 (39, .invokevirtual 224, 3) rfl) g1 (by decide) P (fun h7 P => ?_)
  refine mx_aload_n (pc := 42) 0 (mx_dd dd_X12_readWhile 25 (42, .aload_n 0, 1) rfl) rfl rfl ?_
  obtain ⟨g13, P⟩ := P
  obtain ⟨b3, g14, P⟩ := P
  refine mx_getR (pc := 43) mx_fl_X12_143 g13 rfl g14 (mx_dd dd_X12_readWhile 26 (43, .getfield 143, 3) rfl) ?_
  refine mx_iload_n (pc := 46) 1 (mx_dd dd_X12_readWhile 27 (46, .iload_n 1, 1) rfl) rfl rfl ?_
  refine mx_aload_n (pc := 47) 0 (mx_dd dd_X12_readWhile 28 (47, .aload_n 0, 1) rfl) rfl rfl ?_
  refine mx_iload_n (pc := 48) 2 (mx_dd dd_X12_readWhile 29 (48, .iload_n 2, 1) rfl) rfl rfl ?_
  refine mx_iconst (pc := 49) (v := (1 : Int32)) (mx_dd dd_X12_readWhile 30 (49, .iconst 1, 1) rfl) (by decide) ?_
  refine mx_iadd (pc := 50) (mx_dd dd_X12_readWhile 31 (50, .iadd, 1) rfl) ?_
  refine mx_cVI (pc := 51) (Y := mY_X12_readScript) (As := [.int _]) mx_ml_X12_221 mx_y_X12_readScript rfl g13 (by decide) rfl (by simp [Value.category]) rfl (mx_dd dd_X12_readWhile 32 (51, .invokevirtual 221, 3) rfl) g1 (by decide) P (fun v2 h8 P => ?_)
  obtain ⟨g15, P⟩ := P
  obtain ⟨g16, P⟩ := P
  refine mx_iast (pc := 54) g15 g16 (mx_dd dd_X12_readWhile 33 (54, .iastore, 1) rfl) ?_
  have P := P _ rfl
  refine mx_aload_n (pc := 55) 0 (mx_dd dd_X12_readWhile 34 (55, .aload_n 0, 1) rfl) rfl rfl ?_
  refine mx_ldcS (pc := 56) (i := 12) rfl (by decide) (mx_dd dd_X12_readWhile 35 (56, .ldc 170, 2) rfl) ?_
  obtain ⟨g17, P⟩ := P
  refine mx_cVV (pc := 58) (Y := mY_X12_needsWord) (As := [.ref _]) mx_ml_X12_224 mx_y_X12_needsWord rfl g17 (by decide) rfl (by decide) rfl (mx_dd dd_X12_readWhile 36 (58, .invokevirtual 224, 3) rfl) g1 (by decide) P (fun h10 P => ?_)
  exact mx_return (pc := 61) (mx_dd dd_X12_readWhile 37 (61, .return_, 1) rfl) rfl P
theorem b_X12_isReserved {d : Nat} {h : mxH} {Q : mxRes → mxH → Prop} (x0 : Nat)
    (P : 1 ≤ d ∧ hpK h x0 = 12 ∧ mx_SM mY_X12_isWord (d - 1) [.ref x0, .ref (3 + 13)] h (mx_KI (fun v1 h1 => ((¬ v1 = 0 → mx_SX mY_X12_isReserved d 72 [] [] h1 Q) ∧ (v1 = 0 → hpK h1 x0 = 12 ∧ mx_SM mY_X12_isWord (d - 1) [.ref x0, .ref (3 + 8)] h1 (mx_KI (fun v2 h2 => ((¬ v2 = 0 → mx_SX mY_X12_isReserved d 72 [] [] h2 Q) ∧ (v2 = 0 → hpK h2 x0 = 12 ∧ mx_SM mY_X12_isWord (d - 1) [.ref x0, .ref (3 + 9)] h2 (mx_KI (fun v3 h3 => ((¬ v3 = 0 → mx_SX mY_X12_isReserved d 72 [] [] h3 Q) ∧ (v3 = 0 → hpK h3 x0 = 12 ∧ mx_SM mY_X12_isWord (d - 1) [.ref x0, .ref (3 + 10)] h3 (mx_KI (fun v4 h4 => ((¬ v4 = 0 → mx_SX mY_X12_isReserved d 72 [] [] h4 Q) ∧ (v4 = 0 → hpK h4 x0 = 12 ∧ mx_SM mY_X12_isWord (d - 1) [.ref x0, .ref (3 + 14)] h4 (mx_KI (fun v5 h5 => ((¬ v5 = 0 → mx_SX mY_X12_isReserved d 72 [] [] h5 Q) ∧ (v5 = 0 → hpK h5 x0 = 12 ∧ mx_SM mY_X12_isWord (d - 1) [.ref x0, .ref (3 + 11)] h5 (mx_KI (fun v6 h6 => ((¬ v6 = 0 → mx_SX mY_X12_isReserved d 72 [] [] h6 Q) ∧ (v6 = 0 → hpK h6 x0 = 12 ∧ mx_SM mY_X12_isWord (d - 1) [.ref x0, .ref (3 + 12)] h6 (mx_KI (fun v7 h7 => ((¬ v7 = 0 → mx_SX mY_X12_isReserved d 72 [] [] h7 Q) ∧ (v7 = 0 → hpK h7 x0 = 12 ∧ mx_SM mY_X12_isWord (d - 1) [.ref x0, .ref (3 + 15)] h7 (mx_KI (fun v8 h8 => ((v8 = 0 → Q (.inl (some (.int (0 : Int32)))) h8) ∧ (¬ v8 = 0 → mx_SX mY_X12_isReserved d 72 [] [] h8 Q))) (mx_XX mY_X12_isReserved Q))))) (mx_XX mY_X12_isReserved Q))))) (mx_XX mY_X12_isReserved Q))))) (mx_XX mY_X12_isReserved Q))))) (mx_XX mY_X12_isReserved Q))))) (mx_XX mY_X12_isReserved Q))))) (mx_XX mY_X12_isReserved Q))))) (mx_XX mY_X12_isReserved Q))) : mx_SM mY_X12_isReserved d [.ref x0] h Q := by
  refine mx_SM_of (by decide) (Nat.le_of_ble_eq_true rfl) ?_
  show mx_SX mY_X12_isReserved d 0 [(0, .ref x0)] [] h Q
  refine mx_aload_n (pc := 0) 0 (mx_dd dd_X12_isReserved 0 (0, .aload_n 0, 1) rfl) rfl rfl ?_
  refine mx_ldcS (pc := 1) (i := 13) rfl (by decide) (mx_dd dd_X12_isReserved 1 (1, .ldc 197, 2) rfl) ?_
  obtain ⟨g1, P⟩ := P
  obtain ⟨g2, P⟩ := P
  refine mx_cVI (pc := 3) (Y := mY_X12_isWord) (As := [.ref _]) mx_ml_X12_74 mx_y_X12_isWord rfl g2 (by decide) rfl (by decide) rfl (mx_dd dd_X12_isReserved 2 (3, .invokevirtual 74, 3) rfl) g1 (by decide) P (fun v1 h1 P => ?_)
  refine mx_if_ne (pc := 6) 72 (mx_dd dd_X12_isReserved 3 (6, .ifCond .ne 66, 3) rfl) rfl (fun c6 => ?_) (fun c6 => ?_)
  · have P := P.1 c6
    refine mx_sel [] rfl ?_
    exact P
  · have P := P.2 c6
    refine mx_aload_n (pc := 9) 0 (mx_dd dd_X12_isReserved 4 (9, .aload_n 0, 1) rfl) rfl rfl ?_
    refine mx_ldcS (pc := 10) (i := 8) rfl (by decide) (mx_dd dd_X12_isReserved 5 (10, .ldc 162, 2) rfl) ?_
    obtain ⟨g3, P⟩ := P
    refine mx_cVI (pc := 12) (Y := mY_X12_isWord) (As := [.ref _]) mx_ml_X12_74 mx_y_X12_isWord rfl g3 (by decide) rfl (by decide) rfl (mx_dd dd_X12_isReserved 6 (12, .invokevirtual 74, 3) rfl) g1 (by decide) P (fun v2 h2 P => ?_)
    refine mx_if_ne (pc := 15) 72 (mx_dd dd_X12_isReserved 7 (15, .ifCond .ne 57, 3) rfl) rfl (fun c15 => ?_) (fun c15 => ?_)
    · have P := P.1 c15
      refine mx_sel [] rfl ?_
      exact P
    · have P := P.2 c15
      refine mx_aload_n (pc := 18) 0 (mx_dd dd_X12_isReserved 8 (18, .aload_n 0, 1) rfl) rfl rfl ?_
      refine mx_ldcS (pc := 19) (i := 9) rfl (by decide) (mx_dd dd_X12_isReserved 9 (19, .ldc 164, 2) rfl) ?_
      obtain ⟨g4, P⟩ := P
      refine mx_cVI (pc := 21) (Y := mY_X12_isWord) (As := [.ref _]) mx_ml_X12_74 mx_y_X12_isWord rfl g4 (by decide) rfl (by decide) rfl (mx_dd dd_X12_isReserved 10 (21, .invokevirtual 74, 3) rfl) g1 (by decide) P (fun v3 h3 P => ?_)
      refine mx_if_ne (pc := 24) 72 (mx_dd dd_X12_isReserved 11 (24, .ifCond .ne 48, 3) rfl) rfl (fun c24 => ?_) (fun c24 => ?_)
      · have P := P.1 c24
        refine mx_sel [] rfl ?_
        exact P
      · have P := P.2 c24
        refine mx_aload_n (pc := 27) 0 (mx_dd dd_X12_isReserved 12 (27, .aload_n 0, 1) rfl) rfl rfl ?_
        refine mx_ldcS (pc := 28) (i := 10) rfl (by decide) (mx_dd dd_X12_isReserved 13 (28, .ldc 166, 2) rfl) ?_
        obtain ⟨g5, P⟩ := P
        refine mx_cVI (pc := 30) (Y := mY_X12_isWord) (As := [.ref _]) mx_ml_X12_74 mx_y_X12_isWord rfl g5 (by decide) rfl (by decide) rfl (mx_dd dd_X12_isReserved 14 (30, .invokevirtual 74, 3) rfl) g1 (by decide) P (fun v4 h4 P => ?_)
        refine mx_if_ne (pc := 33) 72 (mx_dd dd_X12_isReserved 15 (33, .ifCond .ne 39, 3) rfl) rfl (fun c33 => ?_) (fun c33 => ?_)
        · have P := P.1 c33
          refine mx_sel [] rfl ?_
          exact P
        · have P := P.2 c33
          refine mx_aload_n (pc := 36) 0 (mx_dd dd_X12_isReserved 16 (36, .aload_n 0, 1) rfl) rfl rfl ?_
          refine mx_ldcS (pc := 37) (i := 14) rfl (by decide) (mx_dd dd_X12_isReserved 17 (37, .ldc 202, 2) rfl) ?_
          obtain ⟨g6, P⟩ := P
          refine mx_cVI (pc := 39) (Y := mY_X12_isWord) (As := [.ref _]) mx_ml_X12_74 mx_y_X12_isWord rfl g6 (by decide) rfl (by decide) rfl (mx_dd dd_X12_isReserved 18 (39, .invokevirtual 74, 3) rfl) g1 (by decide) P (fun v5 h5 P => ?_)
          refine mx_if_ne (pc := 42) 72 (mx_dd dd_X12_isReserved 19 (42, .ifCond .ne 30, 3) rfl) rfl (fun c42 => ?_) (fun c42 => ?_)
          · have P := P.1 c42
            refine mx_sel [] rfl ?_
            exact P
          · have P := P.2 c42
            refine mx_aload_n (pc := 45) 0 (mx_dd dd_X12_isReserved 20 (45, .aload_n 0, 1) rfl) rfl rfl ?_
            refine mx_ldcS (pc := 46) (i := 11) rfl (by decide) (mx_dd dd_X12_isReserved 21 (46, .ldc 168, 2) rfl) ?_
            obtain ⟨g7, P⟩ := P
            refine mx_cVI (pc := 48) (Y := mY_X12_isWord) (As := [.ref _]) mx_ml_X12_74 mx_y_X12_isWord rfl g7 (by decide) rfl (by decide) rfl (mx_dd dd_X12_isReserved 22 (48, .invokevirtual 74, 3) rfl) g1 (by decide) P (fun v6 h6 P => ?_)
            refine mx_if_ne (pc := 51) 72 (mx_dd dd_X12_isReserved 23 (51, .ifCond .ne 21, 3) rfl) rfl (fun c51 => ?_) (fun c51 => ?_)
            · have P := P.1 c51
              refine mx_sel [] rfl ?_
              exact P
            · have P := P.2 c51
              refine mx_aload_n (pc := 54) 0 (mx_dd dd_X12_isReserved 24 (54, .aload_n 0, 1) rfl) rfl rfl ?_
              refine mx_ldcS (pc := 55) (i := 12) rfl (by decide) (mx_dd dd_X12_isReserved 25 (55, .ldc 170, 2) rfl) ?_
              obtain ⟨g8, P⟩ := P
              refine mx_cVI (pc := 57) (Y := mY_X12_isWord) (As := [.ref _]) mx_ml_X12_74 mx_y_X12_isWord rfl g8 (by decide) rfl (by decide) rfl (mx_dd dd_X12_isReserved 26 (57, .invokevirtual 74, 3) rfl) g1 (by decide) P (fun v7 h7 P => ?_)
              refine mx_if_ne (pc := 60) 72 (mx_dd dd_X12_isReserved 27 (60, .ifCond .ne 12, 3) rfl) rfl (fun c60 => ?_) (fun c60 => ?_)
              · have P := P.1 c60
                refine mx_sel [] rfl ?_
                exact P
              · have P := P.2 c60
                refine mx_aload_n (pc := 63) 0 (mx_dd dd_X12_isReserved 28 (63, .aload_n 0, 1) rfl) rfl rfl ?_
                refine mx_ldcS (pc := 64) (i := 15) rfl (by decide) (mx_dd dd_X12_isReserved 29 (64, .ldc 207, 2) rfl) ?_
                obtain ⟨g9, P⟩ := P
                refine mx_cVI (pc := 66) (Y := mY_X12_isWord) (As := [.ref _]) mx_ml_X12_74 mx_y_X12_isWord rfl g9 (by decide) rfl (by decide) rfl (mx_dd dd_X12_isReserved 30 (66, .invokevirtual 74, 3) rfl) g1 (by decide) P (fun v8 h8 P => ?_)
                refine mx_if_eq (pc := 69) 76 (mx_dd dd_X12_isReserved 31 (69, .ifCond .eq 7, 3) rfl) rfl (fun c69 => ?_) (fun c69 => ?_)
                · have P := P.1 c69
                  refine mx_iconst (pc := 76) (v := (0 : Int32)) (mx_dd dd_X12_isReserved 34 (76, .iconst 0, 1) rfl) (by decide) ?_
                  exact mx_ireturn (pc := 77) (mx_dd dd_X12_isReserved 35 (77, .ireturn, 1) rfl) rfl rfl P
                · have P := P.2 c69
                  refine mx_sel [] rfl ?_
                  exact P
theorem b_X12_isReserved_72 {d : Nat} {h : mxH} {Q : mxRes → mxH → Prop} 
    (P : Q (.inl (some (.int (1 : Int32)))) h) : mx_SX mY_X12_isReserved d 72 [] [] h Q := by
  refine mx_iconst (pc := 72) (v := (1 : Int32)) (mx_dd dd_X12_isReserved 32 (72, .iconst 1, 1) rfl) (by decide) ?_
  refine mx_goto (pc := 73) 77 (mx_dd dd_X12_isReserved 33 (73, .goto 4, 3) rfl) rfl ?_
  exact mx_ireturn (pc := 77) (mx_dd dd_X12_isReserved 35 (77, .ireturn, 1) rfl) rfl rfl P
theorem b_X12_readDef {d : Nat} {h : mxH} {Q : mxRes → mxH → Prop} (x0 : Nat) (x1 : Int32) (x2 : Int32)
    (P : 1 ≤ d ∧ hpK h x0 = 12 ∧ mx_SM mY_X12_opens (d - 1) [.ref x0, .int x2] h (mx_KV (fun h1 => hpK h1 x0 = 12 ∧ ∃ b1 : Nat, hpR h1 x0 41 = some b1 ∧ hpK h1 b1 = 14 ∧ vp_in x1 (hpZ h1 b1) ∧ ∀ h2 : mxH, h2 = hsI h1 b1 x1.toNatClampNeg (8 : Int32) → mx_SM mY_X12_passes (d - 1) [.ref x0] h2 (mx_KV (fun h3 => hpK h3 x0 = 12 ∧ mx_SM mY_X12_isReserved (d - 1) [.ref x0] h3 (mx_KI (fun v1 h4 => ((¬ v1 = 0 → mx_SX mY_X12_readDef d 132 [(0, .ref x0), (1, .int x1), (2, .int x2)] [] h4 Q) ∧ (v1 = 0 → hpK h4 x0 = 12 ∧ mx_SM mY_X12_isWord (d - 1) [.ref x0, .ref (3 + 16)] h4 (mx_KI (fun v2 h5 => ((¬ v2 = 0 → mx_SX mY_X12_readDef d 132 [(0, .ref x0), (1, .int x1), (2, .int x2)] [] h5 Q) ∧ (v2 = 0 → hpK h5 x0 = 12 ∧ mx_SM mY_X12_isWord (d - 1) [.ref x0, .ref (3 + 17)] h5 (mx_KI (fun v3 h6 => ((¬ v3 = 0 → mx_SX mY_X12_readDef d 132 [(0, .ref x0), (1, .int x1), (2, .int x2)] [] h6 Q) ∧ (v3 = 0 → hpK h6 x0 = 12 ∧ mx_SM mY_X12_isWord (d - 1) [.ref x0, .ref (3 + 18)] h6 (mx_KI (fun v4 h7 => ((¬ v4 = 0 → mx_SX mY_X12_readDef d 132 [(0, .ref x0), (1, .int x1), (2, .int x2)] [] h7 Q) ∧ (v4 = 0 → hpK h7 x0 = 12 ∧ mx_SM mY_X12_isWord (d - 1) [.ref x0, .ref (3 + 19)] h7 (mx_KI (fun v5 h8 => ((¬ v5 = 0 → mx_SX mY_X12_readDef d 132 [(0, .ref x0), (1, .int x1), (2, .int x2)] [] h8 Q) ∧ (v5 = 0 → hpK h8 x0 = 12 ∧ mx_SM mY_X12_isWord (d - 1) [.ref x0, .ref (3 + 20)] h8 (mx_KI (fun v6 h9 => ((¬ v6 = 0 → mx_SX mY_X12_readDef d 132 [(0, .ref x0), (1, .int x1), (2, .int x2)] [] h9 Q) ∧ (v6 = 0 → hpK h9 x0 = 12 ∧ mx_SM mY_X12_isWord (d - 1) [.ref x0, .ref (3 + 21)] h9 (mx_KI (fun v7 h10 => ((¬ v7 = 0 → mx_SX mY_X12_readDef d 132 [(0, .ref x0), (1, .int x1), (2, .int x2)] [] h10 Q) ∧ (v7 = 0 → hpK h10 x0 = 12 ∧ mx_SM mY_X12_isWord (d - 1) [.ref x0, .ref (3 + 22)] h10 (mx_KI (fun v8 h11 => ((¬ v8 = 0 → mx_SX mY_X12_readDef d 132 [(0, .ref x0), (1, .int x1), (2, .int x2)] [] h11 Q) ∧ (v8 = 0 → hpK h11 x0 = 12 ∧ mx_SM mY_X12_isWord (d - 1) [.ref x0, .ref (3 + 23)] h11 (mx_KI (fun v9 h12 => ((¬ v9 = 0 → mx_SX mY_X12_readDef d 132 [(0, .ref x0), (1, .int x1), (2, .int x2)] [] h12 Q) ∧ (v9 = 0 → hpK h12 x0 = 12 ∧ mx_SM mY_X12_isWord (d - 1) [.ref x0, .ref (3 + 24)] h12 (mx_KI (fun v10 h13 => ((¬ v10 = 0 → mx_SX mY_X12_readDef d 132 [(0, .ref x0), (1, .int x1), (2, .int x2)] [] h13 Q) ∧ (v10 = 0 → hpK h13 x0 = 12 ∧ mx_SM mY_X12_isWord (d - 1) [.ref x0, .ref (3 + 25)] h13 (mx_KI (fun v11 h14 => ((¬ v11 = 0 → mx_SX mY_X12_readDef d 132 [(0, .ref x0), (1, .int x1), (2, .int x2)] [] h14 Q) ∧ (v11 = 0 → hpK h14 x0 = 12 ∧ mx_SM mY_X12_isWord (d - 1) [.ref x0, .ref (3 + 26)] h14 (mx_KI (fun v12 h15 => ((¬ v12 = 0 → mx_SX mY_X12_readDef d 132 [(0, .ref x0), (1, .int x1), (2, .int x2)] [] h15 Q) ∧ (v12 = 0 → hpK h15 x0 = 12 ∧ mx_SM mY_X12_isWord (d - 1) [.ref x0, .ref (3 + 27)] h15 (mx_KI (fun v13 h16 => ((v13 = 0 → (((0 : Int32) = 0 → mx_SX mY_X12_readDef d 147 [(0, .ref x0), (1, .int x1), (2, .int x2)] [] h16 Q) ∧ (¬ (0 : Int32) = 0 → hpK h16 x0 = 12 ∧ mx_SM mY_X12_fails (d - 1) [.ref x0, .int (1 : Int32)] h16 (mx_KV (fun h17 => mx_SX mY_X12_readDef d 147 [(0, .ref x0), (1, .int x1), (2, .int x2)] [] h17 Q) (mx_XX mY_X12_readDef Q))))) ∧ (¬ v13 = 0 → mx_SX mY_X12_readDef d 132 [(0, .ref x0), (1, .int x1), (2, .int x2)] [] h16 Q))) (mx_XX mY_X12_readDef Q))))) (mx_XX mY_X12_readDef Q))))) (mx_XX mY_X12_readDef Q))))) (mx_XX mY_X12_readDef Q))))) (mx_XX mY_X12_readDef Q))))) (mx_XX mY_X12_readDef Q))))) (mx_XX mY_X12_readDef Q))))) (mx_XX mY_X12_readDef Q))))) (mx_XX mY_X12_readDef Q))))) (mx_XX mY_X12_readDef Q))))) (mx_XX mY_X12_readDef Q))))) (mx_XX mY_X12_readDef Q))))) (mx_XX mY_X12_readDef Q))) (mx_XX mY_X12_readDef Q))) (mx_XX mY_X12_readDef Q))) : mx_SM mY_X12_readDef d [.ref x0, .int x1, .int x2] h Q := by
  refine mx_SM_of (by decide) (Nat.le_of_ble_eq_true rfl) ?_
  show mx_SX mY_X12_readDef d 0 [(0, .ref x0), (1, .int x1), (2, .int x2)] [] h Q
  refine mx_aload_n (pc := 0) 0 (mx_dd dd_X12_readDef_0 0 (0, .aload_n 0, 1) rfl) rfl rfl ?_
  refine mx_iload_n (pc := 1) 2 (mx_dd dd_X12_readDef_0 1 (1, .iload_n 2, 1) rfl) rfl rfl ?_
  obtain ⟨g1, P⟩ := P
  obtain ⟨g2, P⟩ := P
  refine mx_cVV (pc := 2) (Y := mY_X12_opens) (As := [.int _]) mx_ml_X12_218 mx_y_X12_opens rfl g2 (by decide) rfl (by decide) rfl (mx_dd dd_X12_readDef_0 2 (2, .invokevirtual 218, 3) rfl) g1 (by decide) P (fun h1 P => ?_)
  refine mx_aload_n (pc := 5) 0 (mx_dd dd_X12_readDef_0 3 (5, .aload_n 0, 1) rfl) rfl rfl ?_
  obtain ⟨g3, P⟩ := P
  obtain ⟨b1, g4, P⟩ := P
  refine mx_getR (pc := 6) mx_fl_X12_137 g3 rfl g4 (mx_dd dd_X12_readDef_0 4 (6, .getfield 137, 3) rfl) ?_
  refine mx_iload_n (pc := 9) 1 (mx_dd dd_X12_readDef_0 5 (9, .iload_n 1, 1) rfl) rfl rfl ?_
  refine mx_bipush (pc := 10) (v := (8 : Int32)) (mx_dd dd_X12_readDef_0 6 (10, .bipush 8, 2) rfl) (by decide) ?_
  obtain ⟨g5, P⟩ := P
  obtain ⟨g6, P⟩ := P
  refine mx_iast (pc := 12) g5 g6 (mx_dd dd_X12_readDef_0 7 (12, .iastore, 1) rfl) ?_
  have P := P _ rfl
  refine mx_aload_n (pc := 13) 0 (mx_dd dd_X12_readDef_0 8 (13, .aload_n 0, 1) rfl) rfl rfl ?_
  refine mx_cVV (pc := 14) (Y := mY_X12_passes) (As := []) mx_ml_X12_78 mx_y_X12_passes rfl g3 (by decide) rfl (by decide) rfl (mx_dd dd_X12_readDef_0 9 (14, .invokevirtual 78, 3) rfl) g1 (by decide) P (fun h3 P => ?_)
  refine mx_aload_n (pc := 17) 0 (mx_dd dd_X12_readDef_0 10 (17, .aload_n 0, 1) rfl) rfl rfl ?_
  obtain ⟨g7, P⟩ := P
  refine mx_cVI (pc := 18) (Y := mY_X12_isReserved) (As := []) mx_ml_X12_228 mx_y_X12_isReserved rfl g7 (by decide) rfl (by decide) rfl (mx_dd dd_X12_readDef_0 11 (18, .invokevirtual 228, 3) rfl) g1 (by decide) P (fun v1 h4 P => ?_)
  refine mx_if_ne (pc := 21) 132 (mx_dd dd_X12_readDef_0 12 (21, .ifCond .ne 111, 3) rfl) rfl (fun c21 => ?_) (fun c21 => ?_)
  · have P := P.1 c21
    exact P
  · have P := P.2 c21
    refine mx_aload_n (pc := 24) 0 (mx_dd dd_X12_readDef_0 13 (24, .aload_n 0, 1) rfl) rfl rfl ?_
    refine mx_ldcS (pc := 25) (i := 16) rfl (by decide) (mx_dd dd_X12_readDef_0 14 (25, .ldc 231, 2) rfl) ?_
    obtain ⟨g8, P⟩ := P
    refine mx_cVI (pc := 27) (Y := mY_X12_isWord) (As := [.ref _]) mx_ml_X12_74 mx_y_X12_isWord rfl g8 (by decide) rfl (by decide) rfl (mx_dd dd_X12_readDef_0 15 (27, .invokevirtual 74, 3) rfl) g1 (by decide) P (fun v2 h5 P => ?_)
    refine mx_if_ne (pc := 30) 132 (mx_dd dd_X12_readDef_0 16 (30, .ifCond .ne 102, 3) rfl) rfl (fun c30 => ?_) (fun c30 => ?_)
    · have P := P.1 c30
      exact P
    · have P := P.2 c30
      refine mx_aload_n (pc := 33) 0 (mx_dd dd_X12_readDef_0 17 (33, .aload_n 0, 1) rfl) rfl rfl ?_
      refine mx_ldcS (pc := 34) (i := 17) rfl (by decide) (mx_dd dd_X12_readDef_0 18 (34, .ldc 233, 2) rfl) ?_
      obtain ⟨g9, P⟩ := P
      refine mx_cVI (pc := 36) (Y := mY_X12_isWord) (As := [.ref _]) mx_ml_X12_74 mx_y_X12_isWord rfl g9 (by decide) rfl (by decide) rfl (mx_dd dd_X12_readDef_0 19 (36, .invokevirtual 74, 3) rfl) g1 (by decide) P (fun v3 h6 P => ?_)
      refine mx_if_ne (pc := 39) 132 (mx_dd dd_X12_readDef_0 20 (39, .ifCond .ne 93, 3) rfl) rfl (fun c39 => ?_) (fun c39 => ?_)
      · have P := P.1 c39
        exact P
      · have P := P.2 c39
        refine mx_aload_n (pc := 42) 0 (mx_dd dd_X12_readDef_0 21 (42, .aload_n 0, 1) rfl) rfl rfl ?_
        refine mx_ldcS (pc := 43) (i := 18) rfl (by decide) (mx_dd dd_X12_readDef_0 22 (43, .ldc 235, 2) rfl) ?_
        obtain ⟨g10, P⟩ := P
        refine mx_cVI (pc := 45) (Y := mY_X12_isWord) (As := [.ref _]) mx_ml_X12_74 mx_y_X12_isWord rfl g10 (by decide) rfl (by decide) rfl (mx_dd dd_X12_readDef_0 23 (45, .invokevirtual 74, 3) rfl) g1 (by decide) P (fun v4 h7 P => ?_)
        refine mx_if_ne (pc := 48) 132 (mx_dd dd_X12_readDef_0 24 (48, .ifCond .ne 84, 3) rfl) rfl (fun c48 => ?_) (fun c48 => ?_)
        · have P := P.1 c48
          exact P
        · have P := P.2 c48
          refine mx_aload_n (pc := 51) 0 (mx_dd dd_X12_readDef_0 25 (51, .aload_n 0, 1) rfl) rfl rfl ?_
          refine mx_ldcS (pc := 52) (i := 19) rfl (by decide) (mx_dd dd_X12_readDef_0 26 (52, .ldc 237, 2) rfl) ?_
          obtain ⟨g11, P⟩ := P
          refine mx_cVI (pc := 54) (Y := mY_X12_isWord) (As := [.ref _]) mx_ml_X12_74 mx_y_X12_isWord rfl g11 (by decide) rfl (by decide) rfl (mx_dd dd_X12_readDef_0 27 (54, .invokevirtual 74, 3) rfl) g1 (by decide) P (fun v5 h8 P => ?_)
          refine mx_if_ne (pc := 57) 132 (mx_dd dd_X12_readDef_0 28 (57, .ifCond .ne 75, 3) rfl) rfl (fun c57 => ?_) (fun c57 => ?_)
          · have P := P.1 c57
            exact P
          · have P := P.2 c57
            refine mx_aload_n (pc := 60) 0 (mx_dd dd_X12_readDef_0 29 (60, .aload_n 0, 1) rfl) rfl rfl ?_
            refine mx_ldcS (pc := 61) (i := 20) rfl (by decide) (mx_dd dd_X12_readDef_0 30 (61, .ldc 239, 2) rfl) ?_
            obtain ⟨g12, P⟩ := P
            refine mx_cVI (pc := 63) (Y := mY_X12_isWord) (As := [.ref _]) mx_ml_X12_74 mx_y_X12_isWord rfl g12 (by decide) rfl (by decide) rfl (mx_dd dd_X12_readDef_0 31 (63, .invokevirtual 74, 3) rfl) g1 (by decide) P (fun v6 h9 P => ?_)
            refine mx_if_ne (pc := 66) 132 (mx_dd dd_X12_readDef_0 32 (66, .ifCond .ne 66, 3) rfl) rfl (fun c66 => ?_) (fun c66 => ?_)
            · have P := P.1 c66
              exact P
            · have P := P.2 c66
              refine mx_aload_n (pc := 69) 0 (mx_dd dd_X12_readDef_0 33 (69, .aload_n 0, 1) rfl) rfl rfl ?_
              refine mx_ldcS (pc := 70) (i := 21) rfl (by decide) (mx_dd dd_X12_readDef_0 34 (70, .ldc 241, 2) rfl) ?_
              obtain ⟨g13, P⟩ := P
              refine mx_cVI (pc := 72) (Y := mY_X12_isWord) (As := [.ref _]) mx_ml_X12_74 mx_y_X12_isWord rfl g13 (by decide) rfl (by decide) rfl (mx_dd dd_X12_readDef_0 35 (72, .invokevirtual 74, 3) rfl) g1 (by decide) P (fun v7 h10 P => ?_)
              refine mx_if_ne (pc := 75) 132 (mx_dd dd_X12_readDef_0 36 (75, .ifCond .ne 57, 3) rfl) rfl (fun c75 => ?_) (fun c75 => ?_)
              · have P := P.1 c75
                exact P
              · have P := P.2 c75
                refine mx_aload_n (pc := 78) 0 (mx_dd dd_X12_readDef_0 37 (78, .aload_n 0, 1) rfl) rfl rfl ?_
                refine mx_ldcS (pc := 79) (i := 22) rfl (by decide) (mx_dd dd_X12_readDef_0 38 (79, .ldc 243, 2) rfl) ?_
                obtain ⟨g14, P⟩ := P
                refine mx_cVI (pc := 81) (Y := mY_X12_isWord) (As := [.ref _]) mx_ml_X12_74 mx_y_X12_isWord rfl g14 (by decide) rfl (by decide) rfl (mx_dd dd_X12_readDef_0 39 (81, .invokevirtual 74, 3) rfl) g1 (by decide) P (fun v8 h11 P => ?_)
                refine mx_if_ne (pc := 84) 132 (mx_dd dd_X12_readDef_1 0 (84, .ifCond .ne 48, 3) rfl) rfl (fun c84 => ?_) (fun c84 => ?_)
                · have P := P.1 c84
                  exact P
                · have P := P.2 c84
                  refine mx_aload_n (pc := 87) 0 (mx_dd dd_X12_readDef_1 1 (87, .aload_n 0, 1) rfl) rfl rfl ?_
                  refine mx_ldcS (pc := 88) (i := 23) rfl (by decide) (mx_dd dd_X12_readDef_1 2 (88, .ldc 245, 2) rfl) ?_
                  obtain ⟨g15, P⟩ := P
                  refine mx_cVI (pc := 90) (Y := mY_X12_isWord) (As := [.ref _]) mx_ml_X12_74 mx_y_X12_isWord rfl g15 (by decide) rfl (by decide) rfl (mx_dd dd_X12_readDef_1 3 (90, .invokevirtual 74, 3) rfl) g1 (by decide) P (fun v9 h12 P => ?_)
                  refine mx_if_ne (pc := 93) 132 (mx_dd dd_X12_readDef_1 4 (93, .ifCond .ne 39, 3) rfl) rfl (fun c93 => ?_) (fun c93 => ?_)
                  · have P := P.1 c93
                    exact P
                  · have P := P.2 c93
                    refine mx_aload_n (pc := 96) 0 (mx_dd dd_X12_readDef_1 5 (96, .aload_n 0, 1) rfl) rfl rfl ?_
                    refine mx_ldcS (pc := 97) (i := 24) rfl (by decide) (mx_dd dd_X12_readDef_1 6 (97, .ldc 247, 2) rfl) ?_
                    obtain ⟨g16, P⟩ := P
                    refine mx_cVI (pc := 99) (Y := mY_X12_isWord) (As := [.ref _]) mx_ml_X12_74 mx_y_X12_isWord rfl g16 (by decide) rfl (by decide) rfl (mx_dd dd_X12_readDef_1 7 (99, .invokevirtual 74, 3) rfl) g1 (by decide) P (fun v10 h13 P => ?_)
                    refine mx_if_ne (pc := 102) 132 (mx_dd dd_X12_readDef_1 8 (102, .ifCond .ne 30, 3) rfl) rfl (fun c102 => ?_) (fun c102 => ?_)
                    · have P := P.1 c102
                      exact P
                    · have P := P.2 c102
                      refine mx_aload_n (pc := 105) 0 (mx_dd dd_X12_readDef_1 9 (105, .aload_n 0, 1) rfl) rfl rfl ?_
                      refine mx_ldcS (pc := 106) (i := 25) rfl (by decide) (mx_dd dd_X12_readDef_1 10 (106, .ldc 249, 2) rfl) ?_
                      obtain ⟨g17, P⟩ := P
                      refine mx_cVI (pc := 108) (Y := mY_X12_isWord) (As := [.ref _]) mx_ml_X12_74 mx_y_X12_isWord rfl g17 (by decide) rfl (by decide) rfl (mx_dd dd_X12_readDef_1 11 (108, .invokevirtual 74, 3) rfl) g1 (by decide) P (fun v11 h14 P => ?_)
                      refine mx_if_ne (pc := 111) 132 (mx_dd dd_X12_readDef_1 12 (111, .ifCond .ne 21, 3) rfl) rfl (fun c111 => ?_) (fun c111 => ?_)
                      · have P := P.1 c111
                        exact P
                      · have P := P.2 c111
                        refine mx_aload_n (pc := 114) 0 (mx_dd dd_X12_readDef_1 13 (114, .aload_n 0, 1) rfl) rfl rfl ?_
                        refine mx_ldcS (pc := 115) (i := 26) rfl (by decide) (mx_dd dd_X12_readDef_1 14 (115, .ldc 251, 2) rfl) ?_
                        obtain ⟨g18, P⟩ := P
                        refine mx_cVI (pc := 117) (Y := mY_X12_isWord) (As := [.ref _]) mx_ml_X12_74 mx_y_X12_isWord rfl g18 (by decide) rfl (by decide) rfl (mx_dd dd_X12_readDef_1 15 (117, .invokevirtual 74, 3) rfl) g1 (by decide) P (fun v12 h15 P => ?_)
                        refine mx_if_ne (pc := 120) 132 (mx_dd dd_X12_readDef_1 16 (120, .ifCond .ne 12, 3) rfl) rfl (fun c120 => ?_) (fun c120 => ?_)
                        · have P := P.1 c120
                          exact P
                        · have P := P.2 c120
                          refine mx_aload_n (pc := 123) 0 (mx_dd dd_X12_readDef_1 17 (123, .aload_n 0, 1) rfl) rfl rfl ?_
                          refine mx_ldcS (pc := 124) (i := 27) rfl (by decide) (mx_dd dd_X12_readDef_1 18 (124, .ldc 253, 2) rfl) ?_
                          obtain ⟨g19, P⟩ := P
                          refine mx_cVI (pc := 126) (Y := mY_X12_isWord) (As := [.ref _]) mx_ml_X12_74 mx_y_X12_isWord rfl g19 (by decide) rfl (by decide) rfl (mx_dd dd_X12_readDef_1 19 (126, .invokevirtual 74, 3) rfl) g1 (by decide) P (fun v13 h16 P => ?_)
                          refine mx_if_eq (pc := 129) 136 (mx_dd dd_X12_readDef_1 20 (129, .ifCond .eq 7, 3) rfl) rfl (fun c129 => ?_) (fun c129 => ?_)
                          · have P := P.1 c129
                            refine mx_iconst (pc := 136) (v := (0 : Int32)) (mx_dd dd_X12_readDef_1 23 (136, .iconst 0, 1) rfl) (by decide) ?_
                            refine mx_istore_n (pc := 137) (mx_dd dd_X12_readDef_1 24 (137, .istore_n 3, 1) rfl) rfl (by decide) (lv' := [(3, _), (0, _), (1, _), (2, _)]) rfl ?_
                            refine mx_iload_n (pc := 138) 0 (mx_dd dd_X12_readDef_1 25 (138, .iload_n 3, 1) rfl) rfl rfl ?_
                            refine mx_if_eq (pc := 139) 147 (mx_dd dd_X12_readDef_1 26 (139, .ifCond .eq 8, 3) rfl) rfl (fun c139 => ?_) (fun c139 => ?_)
                            · have P := P.1 c139
                              refine mx_sel [1, 2, 3] rfl ?_
                              exact P
                            · have P := P.2 c139
                              refine mx_aload_n (pc := 142) 1 (mx_dd dd_X12_readDef_1 27 (142, .aload_n 0, 1) rfl) rfl rfl ?_
                              refine mx_iconst (pc := 143) (v := (1 : Int32)) (mx_dd dd_X12_readDef_1 28 (143, .iconst 1, 1) rfl) (by decide) ?_
                              obtain ⟨g20, P⟩ := P
                              refine mx_cVV (pc := 144) (Y := mY_X12_fails) (As := [.int _]) mx_ml_X12_84 mx_y_X12_fails rfl g20 (by decide) rfl (by decide) rfl (mx_dd dd_X12_readDef_1 29 (144, .invokevirtual 84, 3) rfl) g1 (by decide) P (fun h17 P => ?_)
                              refine mx_sel [1, 2, 3] rfl ?_
                              exact P
                          · have P := P.2 c129
                            exact P
theorem b_X12_readDef_132 {d : Nat} {h : mxH} {Q : mxRes → mxH → Prop} (x0 : Nat) (x1 : Int32) (x2 : Int32)
    (P : (((1 : Int32) = 0 → mx_SX mY_X12_readDef d 147 [(0, .ref x0), (1, .int x1), (2, .int x2)] [] h Q) ∧ (¬ (1 : Int32) = 0 → 1 ≤ d ∧ hpK h x0 = 12 ∧ mx_SM mY_X12_fails (d - 1) [.ref x0, .int (1 : Int32)] h (mx_KV (fun h1 => mx_SX mY_X12_readDef d 147 [(0, .ref x0), (1, .int x1), (2, .int x2)] [] h1 Q) (mx_XX mY_X12_readDef Q))))) : mx_SX mY_X12_readDef d 132 [(0, .ref x0), (1, .int x1), (2, .int x2)] [] h Q := by
  refine mx_iconst (pc := 132) (v := (1 : Int32)) (mx_dd dd_X12_readDef_1 21 (132, .iconst 1, 1) rfl) (by decide) ?_
  refine mx_goto (pc := 133) 137 (mx_dd dd_X12_readDef_1 22 (133, .goto 4, 3) rfl) rfl ?_
  refine mx_istore_n (pc := 137) (mx_dd dd_X12_readDef_1 24 (137, .istore_n 3, 1) rfl) rfl (by decide) (lv' := [(3, _), (0, _), (1, _), (2, _)]) rfl ?_
  refine mx_iload_n (pc := 138) 0 (mx_dd dd_X12_readDef_1 25 (138, .iload_n 3, 1) rfl) rfl rfl ?_
  refine mx_if_eq (pc := 139) 147 (mx_dd dd_X12_readDef_1 26 (139, .ifCond .eq 8, 3) rfl) rfl (fun c139 => ?_) (fun c139 => ?_)
  · have P := P.1 c139
    refine mx_sel [1, 2, 3] rfl ?_
    exact P
  · have P := P.2 c139
    refine mx_aload_n (pc := 142) 1 (mx_dd dd_X12_readDef_1 27 (142, .aload_n 0, 1) rfl) rfl rfl ?_
    refine mx_iconst (pc := 143) (v := (1 : Int32)) (mx_dd dd_X12_readDef_1 28 (143, .iconst 1, 1) rfl) (by decide) ?_
    obtain ⟨g1, P⟩ := P
    obtain ⟨g2, P⟩ := P
    refine mx_cVV (pc := 144) (Y := mY_X12_fails) (As := [.int _]) mx_ml_X12_84 mx_y_X12_fails rfl g2 (by decide) rfl (by decide) rfl (mx_dd dd_X12_readDef_1 29 (144, .invokevirtual 84, 3) rfl) g1 (by decide) P (fun h1 P => ?_)
    refine mx_sel [1, 2, 3] rfl ?_
    exact P
theorem b_X12_readDef_147 {d : Nat} {h : mxH} {Q : mxRes → mxH → Prop} (x0 : Nat) (x1 : Int32) (x2 : Int32)
    (P : hpK h x0 = 12 ∧ ∃ b1 : Nat, hpR h x0 48 = some b1 ∧ 1 ≤ d ∧ mx_SM mY_X12_word (d - 1) [.ref x0] h (mx_KL (fun v1 h1 => hpK h1 b1 = 15 ∧ vp_in x1 (hpZ h1 b1) ∧ ∀ h2 : mxH, h2 = hsL h1 b1 x1.toNatClampNeg v1 → hpK h2 x0 = 12 ∧ mx_SM mY_X12_needs (d - 1) [.ref x0, .int (123 : Int32)] h2 (mx_KV (fun h3 => hpK h3 x0 = 12 ∧ ∃ b2 : Nat, hpR h3 x0 42 = some b2 ∧ mx_SM mY_X12_readScript (d - 1) [.ref x0, .int (x2 + (1 : Int32))] h3 (mx_KI (fun v2 h4 => hpK h4 b2 = 14 ∧ vp_in x1 (hpZ h4 b2) ∧ ∀ h5 : mxH, h5 = hsI h4 b2 x1.toNatClampNeg v2 → hpK h5 x0 = 12 ∧ mx_SM mY_X12_needs (d - 1) [.ref x0, .int (125 : Int32)] h5 (mx_KV (fun h6 => Q (.inl none) h6) (mx_XX mY_X12_readDef Q))) (mx_XX mY_X12_readDef Q))) (mx_XX mY_X12_readDef Q))) (mx_XX mY_X12_readDef Q))) : mx_SX mY_X12_readDef d 147 [(0, .ref x0), (1, .int x1), (2, .int x2)] [] h Q := by
  refine mx_aload_n (pc := 147) 0 (mx_dd dd_X12_readDef_1 30 (147, .aload_n 0, 1) rfl) rfl rfl ?_
  obtain ⟨g1, P⟩ := P
  obtain ⟨b1, g2, P⟩ := P
  refine mx_getR (pc := 148) mx_fl_X12_158 g1 rfl g2 (mx_dd dd_X12_readDef_1 31 (148, .getfield 158, 3) rfl) ?_
  refine mx_iload_n (pc := 151) 1 (mx_dd dd_X12_readDef_1 32 (151, .iload_n 1, 1) rfl) rfl rfl ?_
  refine mx_aload_n (pc := 152) 0 (mx_dd dd_X12_readDef_1 33 (152, .aload_n 0, 1) rfl) rfl rfl ?_
  obtain ⟨g3, P⟩ := P
  refine mx_cVL (pc := 153) (Y := mY_X12_word) (As := []) mx_ml_X12_255 mx_y_X12_word rfl g1 (by decide) rfl (by simp [Value.category]) rfl (mx_dd dd_X12_readDef_1 34 (153, .invokevirtual 255, 3) rfl) g3 (by decide) P (fun v1 h1 P => ?_)
  obtain ⟨g4, P⟩ := P
  obtain ⟨g5, P⟩ := P
  refine mx_last (pc := 156) g4 g5 (mx_dd dd_X12_readDef_1 35 (156, .lastore, 1) rfl) ?_
  have P := P _ rfl
  refine mx_aload_n (pc := 157) 0 (mx_dd dd_X12_readDef_1 36 (157, .aload_n 0, 1) rfl) rfl rfl ?_
  refine mx_bipush (pc := 158) (v := (123 : Int32)) (mx_dd dd_X12_readDef_1 37 (158, .bipush 123, 2) rfl) (by decide) ?_
  obtain ⟨g6, P⟩ := P
  refine mx_cVV (pc := 160) (Y := mY_X12_needs) (As := [.int _]) mx_ml_X12_181 mx_y_X12_needs rfl g6 (by decide) rfl (by decide) rfl (mx_dd dd_X12_readDef_1 38 (160, .invokevirtual 181, 3) rfl) g3 (by decide) P (fun h3 P => ?_)
  refine mx_aload_n (pc := 163) 0 (mx_dd dd_X12_readDef_1 39 (163, .aload_n 0, 1) rfl) rfl rfl ?_
  obtain ⟨g7, P⟩ := P
  obtain ⟨b2, g8, P⟩ := P
  refine mx_getR (pc := 164) mx_fl_X12_140 g7 rfl g8 (mx_dd dd_X12_readDef_2 0 (164, .getfield 140, 3) rfl) ?_
  refine mx_iload_n (pc := 167) 1 (mx_dd dd_X12_readDef_2 1 (167, .iload_n 1, 1) rfl) rfl rfl ?_
  refine mx_aload_n (pc := 168) 0 (mx_dd dd_X12_readDef_2 2 (168, .aload_n 0, 1) rfl) rfl rfl ?_
  refine mx_iload_n (pc := 169) 2 (mx_dd dd_X12_readDef_2 3 (169, .iload_n 2, 1) rfl) rfl rfl ?_
  refine mx_iconst (pc := 170) (v := (1 : Int32)) (mx_dd dd_X12_readDef_2 4 (170, .iconst 1, 1) rfl) (by decide) ?_
  refine mx_iadd (pc := 171) (mx_dd dd_X12_readDef_2 5 (171, .iadd, 1) rfl) ?_
  refine mx_cVI (pc := 172) (Y := mY_X12_readScript) (As := [.int _]) mx_ml_X12_221 mx_y_X12_readScript rfl g7 (by decide) rfl (by simp [Value.category]) rfl (mx_dd dd_X12_readDef_2 6 (172, .invokevirtual 221, 3) rfl) g3 (by decide) P (fun v2 h4 P => ?_)
  obtain ⟨g9, P⟩ := P
  obtain ⟨g10, P⟩ := P
  refine mx_iast (pc := 175) g9 g10 (mx_dd dd_X12_readDef_2 7 (175, .iastore, 1) rfl) ?_
  have P := P _ rfl
  refine mx_aload_n (pc := 176) 0 (mx_dd dd_X12_readDef_2 8 (176, .aload_n 0, 1) rfl) rfl rfl ?_
  refine mx_bipush (pc := 177) (v := (125 : Int32)) (mx_dd dd_X12_readDef_2 9 (177, .bipush 125, 2) rfl) (by decide) ?_
  obtain ⟨g11, P⟩ := P
  refine mx_cVV (pc := 179) (Y := mY_X12_needs) (As := [.int _]) mx_ml_X12_181 mx_y_X12_needs rfl g11 (by decide) rfl (by decide) rfl (mx_dd dd_X12_readDef_2 10 (179, .invokevirtual 181, 3) rfl) g3 (by decide) P (fun h6 P => ?_)
  exact mx_return (pc := 182) (mx_dd dd_X12_readDef_2 11 (182, .return_, 1) rfl) rfl P
theorem b_X12_readPlain {d : Nat} {h : mxH} {Q : mxRes → mxH → Prop} (x0 : Nat) (x1 : Int32)
    (P : 1 ≤ d ∧ hpK h x0 = 12 ∧ mx_SM mY_X12_isReserved (d - 1) [.ref x0] h (mx_KI (fun v1 h1 => ((v1 = 0 → mx_SX mY_X12_readPlain d 12 [(0, .ref x0), (1, .int x1)] [] h1 Q) ∧ (¬ v1 = 0 → hpK h1 x0 = 12 ∧ mx_SM mY_X12_fails (d - 1) [.ref x0, .int (1 : Int32)] h1 (mx_KV (fun h2 => mx_SX mY_X12_readPlain d 12 [(0, .ref x0), (1, .int x1)] [] h2 Q) (mx_XX mY_X12_readPlain Q))))) (mx_XX mY_X12_readPlain Q))) : mx_SM mY_X12_readPlain d [.ref x0, .int x1] h Q := by
  refine mx_SM_of (by decide) (Nat.le_of_ble_eq_true rfl) ?_
  show mx_SX mY_X12_readPlain d 0 [(0, .ref x0), (1, .int x1)] [] h Q
  refine mx_aload_n (pc := 0) 0 (mx_dd dd_X12_readPlain_0 0 (0, .aload_n 0, 1) rfl) rfl rfl ?_
  obtain ⟨g1, P⟩ := P
  obtain ⟨g2, P⟩ := P
  refine mx_cVI (pc := 1) (Y := mY_X12_isReserved) (As := []) mx_ml_X12_228 mx_y_X12_isReserved rfl g2 (by decide) rfl (by decide) rfl (mx_dd dd_X12_readPlain_0 1 (1, .invokevirtual 228, 3) rfl) g1 (by decide) P (fun v1 h1 P => ?_)
  refine mx_if_eq (pc := 4) 12 (mx_dd dd_X12_readPlain_0 2 (4, .ifCond .eq 8, 3) rfl) rfl (fun c4 => ?_) (fun c4 => ?_)
  · have P := P.1 c4
    exact P
  · have P := P.2 c4
    refine mx_aload_n (pc := 7) 0 (mx_dd dd_X12_readPlain_0 3 (7, .aload_n 0, 1) rfl) rfl rfl ?_
    refine mx_iconst (pc := 8) (v := (1 : Int32)) (mx_dd dd_X12_readPlain_0 4 (8, .iconst 1, 1) rfl) (by decide) ?_
    obtain ⟨g3, P⟩ := P
    refine mx_cVV (pc := 9) (Y := mY_X12_fails) (As := [.int _]) mx_ml_X12_84 mx_y_X12_fails rfl g3 (by decide) rfl (by decide) rfl (mx_dd dd_X12_readPlain_0 5 (9, .invokevirtual 84, 3) rfl) g1 (by decide) P (fun h2 P => ?_)
    exact P
theorem b_X12_readPlain_12 {d : Nat} {h : mxH} {Q : mxRes → mxH → Prop} (x0 : Nat) (x1 : Int32)
    (P : hpK h x0 = 12 ∧ ∃ b1 : Nat, hpR h x0 48 = some b1 ∧ 1 ≤ d ∧ mx_SM mY_X12_word (d - 1) [.ref x0] h (mx_KL (fun v1 h1 => hpK h1 b1 = 15 ∧ vp_in x1 (hpZ h1 b1) ∧ ∀ h2 : mxH, h2 = hsL h1 b1 x1.toNatClampNeg v1 → hpK h2 x0 = 12 ∧ mx_SM mY_X12_takes (d - 1) [.ref x0, .int (61 : Int32)] h2 (mx_KI (fun v2 h3 => ((v2 = 0 → mx_SX mY_X12_readPlain d 52 [(0, .ref x0), (1, .int x1), (2, .int (-1 : Int32))] [] h3 Q) ∧ (¬ v2 = 0 → hpK h3 x0 = 12 ∧ ∃ b2 : Nat, hpR h3 x0 41 = some b2 ∧ hpK h3 b2 = 14 ∧ vp_in x1 (hpZ h3 b2) ∧ ∀ h4 : mxH, h4 = hsI h3 b2 x1.toNatClampNeg (9 : Int32) → ∃ b3 : Nat, hpR h4 x0 42 = some b3 ∧ mx_SM mY_X12_readArgument (d - 1) [.ref x0] h4 (mx_KI (fun v3 h5 => hpK h5 b3 = 14 ∧ vp_in x1 (hpZ h5 b3) ∧ ∀ h6 : mxH, h6 = hsI h5 b3 x1.toNatClampNeg v3 → Q (.inl none) h6) (mx_XX mY_X12_readPlain Q))))) (mx_XX mY_X12_readPlain Q))) (mx_XX mY_X12_readPlain Q))) : mx_SX mY_X12_readPlain d 12 [(0, .ref x0), (1, .int x1)] [] h Q := by
  refine mx_aload_n (pc := 12) 0 (mx_dd dd_X12_readPlain_0 6 (12, .aload_n 0, 1) rfl) rfl rfl ?_
  obtain ⟨g1, P⟩ := P
  obtain ⟨b1, g2, P⟩ := P
  refine mx_getR (pc := 13) mx_fl_X12_158 g1 rfl g2 (mx_dd dd_X12_readPlain_0 7 (13, .getfield 158, 3) rfl) ?_
  refine mx_iload_n (pc := 16) 1 (mx_dd dd_X12_readPlain_0 8 (16, .iload_n 1, 1) rfl) rfl rfl ?_
  refine mx_aload_n (pc := 17) 0 (mx_dd dd_X12_readPlain_0 9 (17, .aload_n 0, 1) rfl) rfl rfl ?_
  obtain ⟨g3, P⟩ := P
  refine mx_cVL (pc := 18) (Y := mY_X12_word) (As := []) mx_ml_X12_255 mx_y_X12_word rfl g1 (by decide) rfl (by simp [Value.category]) rfl (mx_dd dd_X12_readPlain_0 10 (18, .invokevirtual 255, 3) rfl) g3 (by decide) P (fun v1 h1 P => ?_)
  obtain ⟨g4, P⟩ := P
  obtain ⟨g5, P⟩ := P
  refine mx_last (pc := 21) g4 g5 (mx_dd dd_X12_readPlain_0 11 (21, .lastore, 1) rfl) ?_
  have P := P _ rfl
  refine mx_aload_n (pc := 22) 0 (mx_dd dd_X12_readPlain_0 12 (22, .aload_n 0, 1) rfl) rfl rfl ?_
  refine mx_bipush (pc := 23) (v := (61 : Int32)) (mx_dd dd_X12_readPlain_0 13 (23, .bipush 61, 2) rfl) (by decide) ?_
  obtain ⟨g6, P⟩ := P
  refine mx_cVI (pc := 25) (Y := mY_X12_takes) (As := [.int _]) mx_ml_X12_81 mx_y_X12_takes rfl g6 (by decide) rfl (by decide) rfl (mx_dd dd_X12_readPlain_0 14 (25, .invokevirtual 81, 3) rfl) g3 (by decide) P (fun v2 h3 P => ?_)
  refine mx_if_eq (pc := 28) 50 (mx_dd dd_X12_readPlain_0 15 (28, .ifCond .eq 22, 3) rfl) rfl (fun c28 => ?_) (fun c28 => ?_)
  · have P := P.1 c28
    refine mx_iconst (pc := 50) (v := (-1 : Int32)) (mx_dd dd_X12_readPlain_0 28 (50, .iconst (-1), 1) rfl) (by decide) ?_
    refine mx_istore_n (pc := 51) (mx_dd dd_X12_readPlain_0 29 (51, .istore_n 2, 1) rfl) rfl (by decide) (lv' := [(2, _), (0, _), (1, _)]) rfl ?_
    refine mx_sel [1, 2, 0] rfl ?_
    exact P
  · have P := P.2 c28
    refine mx_aload_n (pc := 31) 0 (mx_dd dd_X12_readPlain_0 16 (31, .aload_n 0, 1) rfl) rfl rfl ?_
    obtain ⟨g7, P⟩ := P
    obtain ⟨b2, g8, P⟩ := P
    refine mx_getR (pc := 32) mx_fl_X12_137 g7 rfl g8 (mx_dd dd_X12_readPlain_0 17 (32, .getfield 137, 3) rfl) ?_
    refine mx_iload_n (pc := 35) 1 (mx_dd dd_X12_readPlain_0 18 (35, .iload_n 1, 1) rfl) rfl rfl ?_
    refine mx_bipush (pc := 36) (v := (9 : Int32)) (mx_dd dd_X12_readPlain_0 19 (36, .bipush 9, 2) rfl) (by decide) ?_
    obtain ⟨g9, P⟩ := P
    obtain ⟨g10, P⟩ := P
    refine mx_iast (pc := 38) g9 g10 (mx_dd dd_X12_readPlain_0 20 (38, .iastore, 1) rfl) ?_
    have P := P _ rfl
    refine mx_aload_n (pc := 39) 0 (mx_dd dd_X12_readPlain_0 21 (39, .aload_n 0, 1) rfl) rfl rfl ?_
    obtain ⟨b3, g11, P⟩ := P
    refine mx_getR (pc := 40) mx_fl_X12_140 g7 rfl g11 (mx_dd dd_X12_readPlain_0 22 (40, .getfield 140, 3) rfl) ?_
    refine mx_iload_n (pc := 43) 1 (mx_dd dd_X12_readPlain_0 23 (43, .iload_n 1, 1) rfl) rfl rfl ?_
    refine mx_aload_n (pc := 44) 0 (mx_dd dd_X12_readPlain_0 24 (44, .aload_n 0, 1) rfl) rfl rfl ?_
    refine mx_cVI (pc := 45) (Y := mY_X12_readArgument) (As := []) mx_ml_X12_259 mx_y_X12_readArgument rfl g7 (by decide) rfl (by simp [Value.category]) rfl (mx_dd dd_X12_readPlain_0 25 (45, .invokevirtual 259, 3) rfl) g3 (by decide) P (fun v3 h5 P => ?_)
    obtain ⟨g12, P⟩ := P
    obtain ⟨g13, P⟩ := P
    refine mx_iast (pc := 48) g12 g13 (mx_dd dd_X12_readPlain_0 26 (48, .iastore, 1) rfl) ?_
    have P := P _ rfl
    exact mx_return (pc := 49) (mx_dd dd_X12_readPlain_0 27 (49, .return_, 1) rfl) rfl P
theorem b_X12_readPlain_52 {d : Nat} {h : mxH} {Q : mxRes → mxH → Prop} (x0 : Nat) (x1 : Int32) (x2 : Int32)
    (P : 1 ≤ d ∧ hpK h x0 = 12 ∧ mx_SM mY_X12_hasFailed (d - 1) [.ref x0] h (mx_KI (fun v1 h1 => ((¬ v1 = 0 → Q (.inl none) h1) ∧ (v1 = 0 → hpK h1 x0 = 12 ∧ mx_SM mY_X12_isHandle (d - 1) [.ref x0] h1 (mx_KI (fun v2 h2 => ((¬ v2 = 0 → Q (.inl none) h2) ∧ (v2 = 0 → hpK h2 x0 = 12 ∧ (((hpI h2 x0 7) = (1 : Int32) → mx_SX mY_X12_readPlain d 83 [(0, .ref x0), (1, .int x1), (2, .int x2)] [] h2 Q) ∧ (¬ (hpI h2 x0 7) = (1 : Int32) → ((¬ (hpI h2 x0 7) = (36 : Int32) → Q (.inl none) h2) ∧ ((hpI h2 x0 7) = (36 : Int32) → mx_SX mY_X12_readPlain d 83 [(0, .ref x0), (1, .int x1), (2, .int x2)] [] h2 Q))))))) (mx_XX mY_X12_readPlain Q))))) (mx_XX mY_X12_readPlain Q))) : mx_SX mY_X12_readPlain d 52 [(0, .ref x0), (1, .int x1), (2, .int x2)] [] h Q := by
  refine mx_aload_n (pc := 52) 0 (mx_dd dd_X12_readPlain_0 30 (52, .aload_n 0, 1) rfl) rfl rfl ?_
  obtain ⟨g1, P⟩ := P
  obtain ⟨g2, P⟩ := P
  refine mx_cVI (pc := 53) (Y := mY_X12_hasFailed) (As := []) mx_ml_X12_53 mx_y_X12_hasFailed rfl g2 (by decide) rfl (by decide) rfl (mx_dd dd_X12_readPlain_0 31 (53, .invokevirtual 53, 3) rfl) g1 (by decide) P (fun v1 h1 P => ?_)
  refine mx_if_ne (pc := 56) 115 (mx_dd dd_X12_readPlain_0 32 (56, .ifCond .ne 59, 3) rfl) rfl (fun c56 => ?_) (fun c56 => ?_)
  · have P := P.1 c56
    exact mx_return (pc := 115) (mx_dd dd_X12_readPlain_1 24 (115, .return_, 1) rfl) rfl P
  · have P := P.2 c56
    refine mx_aload_n (pc := 59) 0 (mx_dd dd_X12_readPlain_0 33 (59, .aload_n 0, 1) rfl) rfl rfl ?_
    obtain ⟨g3, P⟩ := P
    refine mx_cVI (pc := 60) (Y := mY_X12_isHandle) (As := []) mx_ml_X12_262 mx_y_X12_isHandle rfl g3 (by decide) rfl (by decide) rfl (mx_dd dd_X12_readPlain_0 34 (60, .invokevirtual 262, 3) rfl) g1 (by decide) P (fun v2 h2 P => ?_)
    refine mx_if_ne (pc := 63) 115 (mx_dd dd_X12_readPlain_0 35 (63, .ifCond .ne 52, 3) rfl) rfl (fun c63 => ?_) (fun c63 => ?_)
    · have P := P.1 c63
      exact mx_return (pc := 115) (mx_dd dd_X12_readPlain_1 24 (115, .return_, 1) rfl) rfl P
    · have P := P.2 c63
      refine mx_aload_n (pc := 66) 0 (mx_dd dd_X12_readPlain_0 36 (66, .aload_n 0, 1) rfl) rfl rfl ?_
      obtain ⟨g4, P⟩ := P
      refine mx_getI (pc := 67) mx_fl_X12_40 g4 rfl (mx_dd dd_X12_readPlain_0 37 (67, .getfield 40, 3) rfl) ?_
      refine mx_iconst (pc := 70) (v := (1 : Int32)) (mx_dd dd_X12_readPlain_0 38 (70, .iconst 1, 1) rfl) (by decide) ?_
      refine mx_icmp_eq (pc := 71) 83 (mx_dd dd_X12_readPlain_0 39 (71, .if_icmp .eq 12, 3) rfl) rfl (fun c71 => ?_) (fun c71 => ?_)
      · have P := P.1 c71
        exact P
      · have P := P.2 c71
        refine mx_aload_n (pc := 74) 0 (mx_dd dd_X12_readPlain_1 0 (74, .aload_n 0, 1) rfl) rfl rfl ?_
        refine mx_getI (pc := 75) mx_fl_X12_40 g4 rfl (mx_dd dd_X12_readPlain_1 1 (75, .getfield 40, 3) rfl) ?_
        refine mx_bipush (pc := 78) (v := (36 : Int32)) (mx_dd dd_X12_readPlain_1 2 (78, .bipush 36, 2) rfl) (by decide) ?_
        refine mx_icmp_ne (pc := 80) 115 (mx_dd dd_X12_readPlain_1 3 (80, .if_icmp .ne 35, 3) rfl) rfl (fun c80 => ?_) (fun c80 => ?_)
        · have P := P.1 c80
          exact mx_return (pc := 115) (mx_dd dd_X12_readPlain_1 24 (115, .return_, 1) rfl) rfl P
        · have P := P.2 c80
          exact P
theorem b_X12_readPlain_83 {d : Nat} {h : mxH} {Q : mxRes → mxH → Prop} (x0 : Nat) (x1 : Int32) (x2 : Int32)
    (P : 1 ≤ d ∧ hpK h x0 = 12 ∧ mx_SM mY_X12_readArgument (d - 1) [.ref x0] h (mx_KI (fun v1 h1 => ((¬ x2 = (-1 : Int32) → hpK h1 x0 = 12 ∧ ∃ b1 : Nat, hpR h1 x0 46 = some b1 ∧ hpK h1 b1 = 14 ∧ vp_in x2 (hpZ h1 b1) ∧ ∀ h2 : mxH, h2 = hsI h1 b1 x2.toNatClampNeg v1 → mx_SX mY_X12_readPlain d 110 [(0, .ref x0), (1, .int x1), (3, .int v1)] [] h2 Q) ∧ (x2 = (-1 : Int32) → hpK h1 x0 = 12 ∧ ∃ b2 : Nat, hpR h1 x0 42 = some b2 ∧ hpK h1 b2 = 14 ∧ vp_in x1 (hpZ h1 b2) ∧ ∀ h3 : mxH, h3 = hsI h1 b2 x1.toNatClampNeg v1 → mx_SX mY_X12_readPlain d 110 [(0, .ref x0), (1, .int x1), (3, .int v1)] [] h3 Q))) (mx_XX mY_X12_readPlain Q))) : mx_SX mY_X12_readPlain d 83 [(0, .ref x0), (1, .int x1), (2, .int x2)] [] h Q := by
  refine mx_aload_n (pc := 83) 0 (mx_dd dd_X12_readPlain_1 4 (83, .aload_n 0, 1) rfl) rfl rfl ?_
  obtain ⟨g1, P⟩ := P
  obtain ⟨g2, P⟩ := P
  refine mx_cVI (pc := 84) (Y := mY_X12_readArgument) (As := []) mx_ml_X12_259 mx_y_X12_readArgument rfl g2 (by decide) rfl (by decide) rfl (mx_dd dd_X12_readPlain_1 5 (84, .invokevirtual 259, 3) rfl) g1 (by decide) P (fun v1 h1 P => ?_)
  refine mx_istore_n (pc := 87) (mx_dd dd_X12_readPlain_1 6 (87, .istore_n 3, 1) rfl) rfl (by decide) (lv' := [(3, _), (0, _), (1, _), (2, _)]) rfl ?_
  refine mx_iload_n (pc := 88) 3 (mx_dd dd_X12_readPlain_1 7 (88, .iload_n 2, 1) rfl) rfl rfl ?_
  refine mx_iconst (pc := 89) (v := (-1 : Int32)) (mx_dd dd_X12_readPlain_1 8 (89, .iconst (-1), 1) rfl) (by decide) ?_
  refine mx_icmp_ne (pc := 90) 103 (mx_dd dd_X12_readPlain_1 9 (90, .if_icmp .ne 13, 3) rfl) rfl (fun c90 => ?_) (fun c90 => ?_)
  · have P := P.1 c90
    refine mx_aload_n (pc := 103) 1 (mx_dd dd_X12_readPlain_1 16 (103, .aload_n 0, 1) rfl) rfl rfl ?_
    obtain ⟨g3, P⟩ := P
    obtain ⟨b1, g4, P⟩ := P
    refine mx_getR (pc := 104) mx_fl_X12_152 g3 rfl g4 (mx_dd dd_X12_readPlain_1 17 (104, .getfield 152, 3) rfl) ?_
    refine mx_iload_n (pc := 107) 3 (mx_dd dd_X12_readPlain_1 18 (107, .iload_n 2, 1) rfl) rfl rfl ?_
    refine mx_iload_n (pc := 108) 0 (mx_dd dd_X12_readPlain_1 19 (108, .iload_n 3, 1) rfl) rfl rfl ?_
    obtain ⟨g5, P⟩ := P
    obtain ⟨g6, P⟩ := P
    refine mx_iast (pc := 109) g5 g6 (mx_dd dd_X12_readPlain_1 20 (109, .iastore, 1) rfl) ?_
    have P := P _ rfl
    refine mx_sel [1, 2, 0] rfl ?_
    exact P
  · have P := P.2 c90
    refine mx_aload_n (pc := 93) 1 (mx_dd dd_X12_readPlain_1 10 (93, .aload_n 0, 1) rfl) rfl rfl ?_
    obtain ⟨g7, P⟩ := P
    obtain ⟨b2, g8, P⟩ := P
    refine mx_getR (pc := 94) mx_fl_X12_140 g7 rfl g8 (mx_dd dd_X12_readPlain_1 11 (94, .getfield 140, 3) rfl) ?_
    refine mx_iload_n (pc := 97) 2 (mx_dd dd_X12_readPlain_1 12 (97, .iload_n 1, 1) rfl) rfl rfl ?_
    refine mx_iload_n (pc := 98) 0 (mx_dd dd_X12_readPlain_1 13 (98, .iload_n 3, 1) rfl) rfl rfl ?_
    obtain ⟨g9, P⟩ := P
    obtain ⟨g10, P⟩ := P
    refine mx_iast (pc := 99) g9 g10 (mx_dd dd_X12_readPlain_1 14 (99, .iastore, 1) rfl) ?_
    have P := P _ rfl
    refine mx_goto (pc := 100) 110 (mx_dd dd_X12_readPlain_1 15 (100, .goto 10, 3) rfl) rfl ?_
    refine mx_sel [1, 2, 0] rfl ?_
    exact P
theorem b_X12_readPlain_110 {d : Nat} {h : mxH} {Q : mxRes → mxH → Prop} (x0 : Nat) (x1 : Int32) (x3 : Int32)
    (P : mx_SX mY_X12_readPlain d 52 [(0, .ref x0), (1, .int x1), (2, .int x3)] [] h Q) : mx_SX mY_X12_readPlain d 110 [(0, .ref x0), (1, .int x1), (3, .int x3)] [] h Q := by
  refine mx_iload_n (pc := 110) 2 (mx_dd dd_X12_readPlain_1 21 (110, .iload_n 3, 1) rfl) rfl rfl ?_
  refine mx_istore_n (pc := 111) (mx_dd dd_X12_readPlain_1 22 (111, .istore_n 2, 1) rfl) rfl (by decide) (lv' := [(2, _), (0, _), (1, _), (3, _)]) rfl ?_
  refine mx_goto (pc := 112) 52 (mx_dd dd_X12_readPlain_1 23 (112, .goto (-60), 3) rfl) rfl ?_
  refine mx_sel [1, 2, 0] rfl ?_
  exact P
theorem b_X12_readArgument {d : Nat} {h : mxH} {Q : mxRes → mxH → Prop} (x0 : Nat)
    (P : 1 ≤ d ∧ hpK h x0 = 12 ∧ mx_SM mY_X12_node (d - 1) [.ref x0, .int (11 : Int32)] h (mx_KI (fun v1 h1 => hpK h1 x0 = 12 ∧ mx_SM mY_X12_takes (d - 1) [.ref x0, .int (36 : Int32)] h1 (mx_KI (fun v2 h2 => ((¬ v2 = 0 → hpK h2 x0 = 12 ∧ mx_SM mY_X12_takes (d - 1) [.ref x0, .int (63 : Int32)] h2 (mx_KI (fun v3 h3 => ((v3 = 0 → hpK h3 x0 = 12 ∧ ∃ b1 : Nat, hpR h3 x0 41 = some b1 ∧ hpK h3 b1 = 14 ∧ vp_in v1 (hpZ h3 b1) ∧ ∀ h4 : mxH, h4 = hsI h3 b1 v1.toNatClampNeg (12 : Int32) → ∃ b2 : Nat, hpR h4 x0 48 = some b2 ∧ mx_SM mY_X12_word (d - 1) [.ref x0] h4 (mx_KL (fun v4 h5 => hpK h5 b2 = 15 ∧ vp_in v1 (hpZ h5 b2) ∧ ∀ h6 : mxH, h6 = hsL h5 b2 v1.toNatClampNeg v4 → Q (.inl (some (.int v1))) h6) (mx_XX mY_X12_readArgument Q))) ∧ (¬ v3 = 0 → hpK h3 x0 = 12 ∧ ∃ b3 : Nat, hpR h3 x0 41 = some b3 ∧ hpK h3 b3 = 14 ∧ vp_in v1 (hpZ h3 b3) ∧ ∀ h7 : mxH, h7 = hsI h3 b3 v1.toNatClampNeg (13 : Int32) → Q (.inl (some (.int v1))) h7))) (mx_XX mY_X12_readArgument Q))) ∧ (v2 = 0 → hpK h2 x0 = 12 ∧ ∃ b4 : Nat, hpR h2 x0 48 = some b4 ∧ mx_SM mY_X12_word (d - 1) [.ref x0] h2 (mx_KL (fun v5 h8 => hpK h8 b4 = 15 ∧ vp_in v1 (hpZ h8 b4) ∧ ∀ h9 : mxH, h9 = hsL h8 b4 v1.toNatClampNeg v5 → Q (.inl (some (.int v1))) h9) (mx_XX mY_X12_readArgument Q))))) (mx_XX mY_X12_readArgument Q))) (mx_XX mY_X12_readArgument Q))) : mx_SM mY_X12_readArgument d [.ref x0] h Q := by
  refine mx_SM_of (by decide) (Nat.le_of_ble_eq_true rfl) ?_
  show mx_SX mY_X12_readArgument d 0 [(0, .ref x0)] [] h Q
  refine mx_aload_n (pc := 0) 0 (mx_dd dd_X12_readArgument 0 (0, .aload_n 0, 1) rfl) rfl rfl ?_
  refine mx_bipush (pc := 1) (v := (11 : Int32)) (mx_dd dd_X12_readArgument 1 (1, .bipush 11, 2) rfl) (by decide) ?_
  obtain ⟨g1, P⟩ := P
  obtain ⟨g2, P⟩ := P
  refine mx_cVI (pc := 3) (Y := mY_X12_node) (As := [.int _]) mx_ml_X12_172 mx_y_X12_node rfl g2 (by decide) rfl (by decide) rfl (mx_dd dd_X12_readArgument 2 (3, .invokevirtual 172, 3) rfl) g1 (by decide) P (fun v1 h1 P => ?_)
  refine mx_istore_n (pc := 6) (mx_dd dd_X12_readArgument 3 (6, .istore_n 1, 1) rfl) rfl (by decide) (lv' := [(1, _), (0, _)]) rfl ?_
  refine mx_aload_n (pc := 7) 1 (mx_dd dd_X12_readArgument 4 (7, .aload_n 0, 1) rfl) rfl rfl ?_
  refine mx_bipush (pc := 8) (v := (36 : Int32)) (mx_dd dd_X12_readArgument 5 (8, .bipush 36, 2) rfl) (by decide) ?_
  obtain ⟨g3, P⟩ := P
  refine mx_cVI (pc := 10) (Y := mY_X12_takes) (As := [.int _]) mx_ml_X12_81 mx_y_X12_takes rfl g3 (by decide) rfl (by decide) rfl (mx_dd dd_X12_readArgument 6 (10, .invokevirtual 81, 3) rfl) g1 (by decide) P (fun v2 h2 P => ?_)
  refine mx_if_ne (pc := 13) 28 (mx_dd dd_X12_readArgument 7 (13, .ifCond .ne 15, 3) rfl) rfl (fun c13 => ?_) (fun c13 => ?_)
  · have P := P.1 c13
    refine mx_aload_n (pc := 28) 1 (mx_dd dd_X12_readArgument 16 (28, .aload_n 0, 1) rfl) rfl rfl ?_
    refine mx_bipush (pc := 29) (v := (63 : Int32)) (mx_dd dd_X12_readArgument 17 (29, .bipush 63, 2) rfl) (by decide) ?_
    obtain ⟨g4, P⟩ := P
    refine mx_cVI (pc := 31) (Y := mY_X12_takes) (As := [.int _]) mx_ml_X12_81 mx_y_X12_takes rfl g4 (by decide) rfl (by decide) rfl (mx_dd dd_X12_readArgument 18 (31, .invokevirtual 81, 3) rfl) g1 (by decide) P (fun v3 h3 P => ?_)
    refine mx_if_eq (pc := 34) 47 (mx_dd dd_X12_readArgument 19 (34, .ifCond .eq 13, 3) rfl) rfl (fun c34 => ?_) (fun c34 => ?_)
    · have P := P.1 c34
      refine mx_aload_n (pc := 47) 1 (mx_dd dd_X12_readArgument 27 (47, .aload_n 0, 1) rfl) rfl rfl ?_
      obtain ⟨g5, P⟩ := P
      obtain ⟨b1, g6, P⟩ := P
      refine mx_getR (pc := 48) mx_fl_X12_137 g5 rfl g6 (mx_dd dd_X12_readArgument 28 (48, .getfield 137, 3) rfl) ?_
      refine mx_iload_n (pc := 51) 0 (mx_dd dd_X12_readArgument 29 (51, .iload_n 1, 1) rfl) rfl rfl ?_
      refine mx_bipush (pc := 52) (v := (12 : Int32)) (mx_dd dd_X12_readArgument 30 (52, .bipush 12, 2) rfl) (by decide) ?_
      obtain ⟨g7, P⟩ := P
      obtain ⟨g8, P⟩ := P
      refine mx_iast (pc := 54) g7 g8 (mx_dd dd_X12_readArgument 31 (54, .iastore, 1) rfl) ?_
      have P := P _ rfl
      refine mx_aload_n (pc := 55) 1 (mx_dd dd_X12_readArgument 32 (55, .aload_n 0, 1) rfl) rfl rfl ?_
      obtain ⟨b2, g9, P⟩ := P
      refine mx_getR (pc := 56) mx_fl_X12_158 g5 rfl g9 (mx_dd dd_X12_readArgument 33 (56, .getfield 158, 3) rfl) ?_
      refine mx_iload_n (pc := 59) 0 (mx_dd dd_X12_readArgument 34 (59, .iload_n 1, 1) rfl) rfl rfl ?_
      refine mx_aload_n (pc := 60) 1 (mx_dd dd_X12_readArgument 35 (60, .aload_n 0, 1) rfl) rfl rfl ?_
      refine mx_cVL (pc := 61) (Y := mY_X12_word) (As := []) mx_ml_X12_255 mx_y_X12_word rfl g5 (by decide) rfl (by simp [Value.category]) rfl (mx_dd dd_X12_readArgument 36 (61, .invokevirtual 255, 3) rfl) g1 (by decide) P (fun v4 h5 P => ?_)
      obtain ⟨g10, P⟩ := P
      obtain ⟨g11, P⟩ := P
      refine mx_last (pc := 64) g10 g11 (mx_dd dd_X12_readArgument 37 (64, .lastore, 1) rfl) ?_
      have P := P _ rfl
      refine mx_iload_n (pc := 65) 0 (mx_dd dd_X12_readArgument 38 (65, .iload_n 1, 1) rfl) rfl rfl ?_
      exact mx_ireturn (pc := 66) (mx_dd dd_X12_readArgument 39 (66, .ireturn, 1) rfl) rfl rfl P
    · have P := P.2 c34
      refine mx_aload_n (pc := 37) 1 (mx_dd dd_X12_readArgument 20 (37, .aload_n 0, 1) rfl) rfl rfl ?_
      obtain ⟨g12, P⟩ := P
      obtain ⟨b3, g13, P⟩ := P
      refine mx_getR (pc := 38) mx_fl_X12_137 g12 rfl g13 (mx_dd dd_X12_readArgument 21 (38, .getfield 137, 3) rfl) ?_
      refine mx_iload_n (pc := 41) 0 (mx_dd dd_X12_readArgument 22 (41, .iload_n 1, 1) rfl) rfl rfl ?_
      refine mx_bipush (pc := 42) (v := (13 : Int32)) (mx_dd dd_X12_readArgument 23 (42, .bipush 13, 2) rfl) (by decide) ?_
      obtain ⟨g14, P⟩ := P
      obtain ⟨g15, P⟩ := P
      refine mx_iast (pc := 44) g14 g15 (mx_dd dd_X12_readArgument 24 (44, .iastore, 1) rfl) ?_
      have P := P _ rfl
      refine mx_iload_n (pc := 45) 0 (mx_dd dd_X12_readArgument 25 (45, .iload_n 1, 1) rfl) rfl rfl ?_
      exact mx_ireturn (pc := 46) (mx_dd dd_X12_readArgument 26 (46, .ireturn, 1) rfl) rfl rfl P
  · have P := P.2 c13
    refine mx_aload_n (pc := 16) 1 (mx_dd dd_X12_readArgument 8 (16, .aload_n 0, 1) rfl) rfl rfl ?_
    obtain ⟨g16, P⟩ := P
    obtain ⟨b4, g17, P⟩ := P
    refine mx_getR (pc := 17) mx_fl_X12_158 g16 rfl g17 (mx_dd dd_X12_readArgument 9 (17, .getfield 158, 3) rfl) ?_
    refine mx_iload_n (pc := 20) 0 (mx_dd dd_X12_readArgument 10 (20, .iload_n 1, 1) rfl) rfl rfl ?_
    refine mx_aload_n (pc := 21) 1 (mx_dd dd_X12_readArgument 11 (21, .aload_n 0, 1) rfl) rfl rfl ?_
    refine mx_cVL (pc := 22) (Y := mY_X12_word) (As := []) mx_ml_X12_255 mx_y_X12_word rfl g16 (by decide) rfl (by simp [Value.category]) rfl (mx_dd dd_X12_readArgument 12 (22, .invokevirtual 255, 3) rfl) g1 (by decide) P (fun v5 h8 P => ?_)
    obtain ⟨g18, P⟩ := P
    obtain ⟨g19, P⟩ := P
    refine mx_last (pc := 25) g18 g19 (mx_dd dd_X12_readArgument 13 (25, .lastore, 1) rfl) ?_
    have P := P _ rfl
    refine mx_iload_n (pc := 26) 0 (mx_dd dd_X12_readArgument 14 (26, .iload_n 1, 1) rfl) rfl rfl ?_
    exact mx_ireturn (pc := 27) (mx_dd dd_X12_readArgument 15 (27, .ireturn, 1) rfl) rfl rfl P
theorem b_X12_isDigitHere {d : Nat} {h : mxH} {Q : mxRes → mxH → Prop} (x0 : Nat)
    (P : hpK h x0 = 12 ∧ ((¬ (hpI h x0 7) = (1 : Int32) → Q (.inl (some (.int (0 : Int32)))) h) ∧ ((hpI h x0 7) = (1 : Int32) → ((¬ (hpI h x0 8) = (1 : Int32) → Q (.inl (some (.int (0 : Int32)))) h) ∧ ((hpI h x0 8) = (1 : Int32) → ∃ b1 : Nat, hpR h x0 1 = some b1 ∧ hpK h b1 = 13 ∧ vp_in (hpI h x0 5) (hpZ h b1) ∧ (((57 : Int32) < (hpI h b1 (hpI h x0 5).toNatClampNeg) → Q (.inl (some (.int (0 : Int32)))) h) ∧ (¬ (57 : Int32) < (hpI h b1 (hpI h x0 5).toNatClampNeg) → Q (.inl (some (.int (1 : Int32)))) h))))))) : mx_SM mY_X12_isDigitHere d [.ref x0] h Q := by
  refine mx_SM_of (by decide) (Nat.le_of_ble_eq_true rfl) ?_
  show mx_SX mY_X12_isDigitHere d 0 [(0, .ref x0)] [] h Q
  refine mx_aload_n (pc := 0) 0 (mx_dd dd_X12_isDigitHere 0 (0, .aload_n 0, 1) rfl) rfl rfl ?_
  obtain ⟨g1, P⟩ := P
  refine mx_getI (pc := 1) mx_fl_X12_40 g1 rfl (mx_dd dd_X12_isDigitHere 1 (1, .getfield 40, 3) rfl) ?_
  refine mx_iconst (pc := 4) (v := (1 : Int32)) (mx_dd dd_X12_isDigitHere 2 (4, .iconst 1, 1) rfl) (by decide) ?_
  refine mx_icmp_ne (pc := 5) 34 (mx_dd dd_X12_isDigitHere 3 (5, .if_icmp .ne 29, 3) rfl) rfl (fun c5 => ?_) (fun c5 => ?_)
  · have P := P.1 c5
    refine mx_iconst (pc := 34) (v := (0 : Int32)) (mx_dd dd_X12_isDigitHere 17 (34, .iconst 0, 1) rfl) (by decide) ?_
    exact mx_ireturn (pc := 35) (mx_dd dd_X12_isDigitHere 18 (35, .ireturn, 1) rfl) rfl rfl P
  · have P := P.2 c5
    refine mx_aload_n (pc := 8) 0 (mx_dd dd_X12_isDigitHere 4 (8, .aload_n 0, 1) rfl) rfl rfl ?_
    refine mx_getI (pc := 9) mx_fl_X12_33 g1 rfl (mx_dd dd_X12_isDigitHere 5 (9, .getfield 33, 3) rfl) ?_
    refine mx_iconst (pc := 12) (v := (1 : Int32)) (mx_dd dd_X12_isDigitHere 6 (12, .iconst 1, 1) rfl) (by decide) ?_
    refine mx_icmp_ne (pc := 13) 34 (mx_dd dd_X12_isDigitHere 7 (13, .if_icmp .ne 21, 3) rfl) rfl (fun c13 => ?_) (fun c13 => ?_)
    · have P := P.1 c13
      refine mx_iconst (pc := 34) (v := (0 : Int32)) (mx_dd dd_X12_isDigitHere 17 (34, .iconst 0, 1) rfl) (by decide) ?_
      exact mx_ireturn (pc := 35) (mx_dd dd_X12_isDigitHere 18 (35, .ireturn, 1) rfl) rfl rfl P
    · have P := P.2 c13
      refine mx_aload_n (pc := 16) 0 (mx_dd dd_X12_isDigitHere 8 (16, .aload_n 0, 1) rfl) rfl rfl ?_
      obtain ⟨b1, g2, P⟩ := P
      refine mx_getR (pc := 17) mx_fl_X12_14 g1 rfl g2 (mx_dd dd_X12_isDigitHere 9 (17, .getfield 14, 3) rfl) ?_
      refine mx_aload_n (pc := 20) 0 (mx_dd dd_X12_isDigitHere 10 (20, .aload_n 0, 1) rfl) rfl rfl ?_
      refine mx_getI (pc := 21) mx_fl_X12_27 g1 rfl (mx_dd dd_X12_isDigitHere 11 (21, .getfield 27, 3) rfl) ?_
      obtain ⟨g3, P⟩ := P
      obtain ⟨g4, P⟩ := P
      refine mx_bald (pc := 24) g3 g4 (mx_dd dd_X12_isDigitHere 12 (24, .baload, 1) rfl) ?_
      refine mx_bipush (pc := 25) (v := (57 : Int32)) (mx_dd dd_X12_isDigitHere 13 (25, .bipush 57, 2) rfl) (by decide) ?_
      refine mx_icmp_gt (pc := 27) 34 (mx_dd dd_X12_isDigitHere 14 (27, .if_icmp .gt 7, 3) rfl) rfl (fun c27 => ?_) (fun c27 => ?_)
      · have P := P.1 c27
        refine mx_iconst (pc := 34) (v := (0 : Int32)) (mx_dd dd_X12_isDigitHere 17 (34, .iconst 0, 1) rfl) (by decide) ?_
        exact mx_ireturn (pc := 35) (mx_dd dd_X12_isDigitHere 18 (35, .ireturn, 1) rfl) rfl rfl P
      · have P := P.2 c27
        refine mx_iconst (pc := 30) (v := (1 : Int32)) (mx_dd dd_X12_isDigitHere 15 (30, .iconst 1, 1) rfl) (by decide) ?_
        refine mx_goto (pc := 31) 35 (mx_dd dd_X12_isDigitHere 16 (31, .goto 4, 3) rfl) rfl ?_
        exact mx_ireturn (pc := 35) (mx_dd dd_X12_isDigitHere 18 (35, .ireturn, 1) rfl) rfl rfl P
theorem b_X12_isHandle {d : Nat} {h : mxH} {Q : mxRes → mxH → Prop} (x0 : Nat)
    (P : hpK h x0 = 12 ∧ 1 ≤ d ∧ mx_SM mY_X12_byteAt (d - 1) [.ref x0, .int ((hpI h x0 5) + (1 : Int32))] h (mx_KI (fun v1 h1 => hpK h1 x0 = 12 ∧ mx_SM mY_X12_hasFailed (d - 1) [.ref x0] h1 (mx_KI (fun v2 h2 => ((¬ v2 = 0 → Q (.inl (some (.int (0 : Int32)))) h2) ∧ (v2 = 0 → hpK h2 x0 = 12 ∧ mx_SM mY_X12_isDigitHere (d - 1) [.ref x0] h2 (mx_KI (fun v3 h3 => ((v3 = 0 → Q (.inl (some (.int (0 : Int32)))) h3) ∧ (¬ v3 = 0 → ((v1 = (60 : Int32) → mx_SX mY_X12_isHandle d 37 [] [] h3 Q) ∧ (¬ v1 = (60 : Int32) → ((¬ v1 = (62 : Int32) → Q (.inl (some (.int (0 : Int32)))) h3) ∧ (v1 = (62 : Int32) → mx_SX mY_X12_isHandle d 37 [] [] h3 Q))))))) (mx_XX mY_X12_isHandle Q))))) (mx_XX mY_X12_isHandle Q))) (mx_XX mY_X12_isHandle Q))) : mx_SM mY_X12_isHandle d [.ref x0] h Q := by
  refine mx_SM_of (by decide) (Nat.le_of_ble_eq_true rfl) ?_
  show mx_SX mY_X12_isHandle d 0 [(0, .ref x0)] [] h Q
  refine mx_aload_n (pc := 0) 0 (mx_dd dd_X12_isHandle 0 (0, .aload_n 0, 1) rfl) rfl rfl ?_
  refine mx_aload_n (pc := 1) 0 (mx_dd dd_X12_isHandle 1 (1, .aload_n 0, 1) rfl) rfl rfl ?_
  obtain ⟨g1, P⟩ := P
  refine mx_getI (pc := 2) mx_fl_X12_27 g1 rfl (mx_dd dd_X12_isHandle 2 (2, .getfield 27, 3) rfl) ?_
  refine mx_iconst (pc := 5) (v := (1 : Int32)) (mx_dd dd_X12_isHandle 3 (5, .iconst 1, 1) rfl) (by decide) ?_
  refine mx_iadd (pc := 6) (mx_dd dd_X12_isHandle 4 (6, .iadd, 1) rfl) ?_
  obtain ⟨g2, P⟩ := P
  refine mx_cVI (pc := 7) (Y := mY_X12_byteAt) (As := [.int _]) mx_ml_X12_36 mx_y_X12_byteAt rfl g1 (by decide) rfl (by decide) rfl (mx_dd dd_X12_isHandle 5 (7, .invokevirtual 36, 3) rfl) g2 (by decide) P (fun v1 h1 P => ?_)
  refine mx_istore_n (pc := 10) (mx_dd dd_X12_isHandle 6 (10, .istore_n 1, 1) rfl) rfl (by decide) (lv' := [(1, _), (0, _)]) rfl ?_
  refine mx_aload_n (pc := 11) 1 (mx_dd dd_X12_isHandle 7 (11, .aload_n 0, 1) rfl) rfl rfl ?_
  obtain ⟨g3, P⟩ := P
  refine mx_cVI (pc := 12) (Y := mY_X12_hasFailed) (As := []) mx_ml_X12_53 mx_y_X12_hasFailed rfl g3 (by decide) rfl (by decide) rfl (mx_dd dd_X12_isHandle 8 (12, .invokevirtual 53, 3) rfl) g2 (by decide) P (fun v2 h2 P => ?_)
  refine mx_if_ne (pc := 15) 41 (mx_dd dd_X12_isHandle 9 (15, .ifCond .ne 26, 3) rfl) rfl (fun c15 => ?_) (fun c15 => ?_)
  · have P := P.1 c15
    refine mx_iconst (pc := 41) (v := (0 : Int32)) (mx_dd dd_X12_isHandle 21 (41, .iconst 0, 1) rfl) (by decide) ?_
    exact mx_ireturn (pc := 42) (mx_dd dd_X12_isHandle 22 (42, .ireturn, 1) rfl) rfl rfl P
  · have P := P.2 c15
    refine mx_aload_n (pc := 18) 1 (mx_dd dd_X12_isHandle 10 (18, .aload_n 0, 1) rfl) rfl rfl ?_
    obtain ⟨g4, P⟩ := P
    refine mx_cVI (pc := 19) (Y := mY_X12_isDigitHere) (As := []) mx_ml_X12_265 mx_y_X12_isDigitHere rfl g4 (by decide) rfl (by decide) rfl (mx_dd dd_X12_isHandle 11 (19, .invokevirtual 265, 3) rfl) g2 (by decide) P (fun v3 h3 P => ?_)
    refine mx_if_eq (pc := 22) 41 (mx_dd dd_X12_isHandle 12 (22, .ifCond .eq 19, 3) rfl) rfl (fun c22 => ?_) (fun c22 => ?_)
    · have P := P.1 c22
      refine mx_iconst (pc := 41) (v := (0 : Int32)) (mx_dd dd_X12_isHandle 21 (41, .iconst 0, 1) rfl) (by decide) ?_
      exact mx_ireturn (pc := 42) (mx_dd dd_X12_isHandle 22 (42, .ireturn, 1) rfl) rfl rfl P
    · have P := P.2 c22
      refine mx_iload_n (pc := 25) 0 (mx_dd dd_X12_isHandle 13 (25, .iload_n 1, 1) rfl) rfl rfl ?_
      refine mx_bipush (pc := 26) (v := (60 : Int32)) (mx_dd dd_X12_isHandle 14 (26, .bipush 60, 2) rfl) (by decide) ?_
      refine mx_icmp_eq (pc := 28) 37 (mx_dd dd_X12_isHandle 15 (28, .if_icmp .eq 9, 3) rfl) rfl (fun c28 => ?_) (fun c28 => ?_)
      · have P := P.1 c28
        refine mx_sel [] rfl ?_
        exact P
      · have P := P.2 c28
        refine mx_iload_n (pc := 31) 0 (mx_dd dd_X12_isHandle 16 (31, .iload_n 1, 1) rfl) rfl rfl ?_
        refine mx_bipush (pc := 32) (v := (62 : Int32)) (mx_dd dd_X12_isHandle 17 (32, .bipush 62, 2) rfl) (by decide) ?_
        refine mx_icmp_ne (pc := 34) 41 (mx_dd dd_X12_isHandle 18 (34, .if_icmp .ne 7, 3) rfl) rfl (fun c34 => ?_) (fun c34 => ?_)
        · have P := P.1 c34
          refine mx_iconst (pc := 41) (v := (0 : Int32)) (mx_dd dd_X12_isHandle 21 (41, .iconst 0, 1) rfl) (by decide) ?_
          exact mx_ireturn (pc := 42) (mx_dd dd_X12_isHandle 22 (42, .ireturn, 1) rfl) rfl rfl P
        · have P := P.2 c34
          refine mx_sel [] rfl ?_
          exact P
theorem b_X12_isHandle_37 {d : Nat} {h : mxH} {Q : mxRes → mxH → Prop} 
    (P : Q (.inl (some (.int (1 : Int32)))) h) : mx_SX mY_X12_isHandle d 37 [] [] h Q := by
  refine mx_iconst (pc := 37) (v := (1 : Int32)) (mx_dd dd_X12_isHandle 19 (37, .iconst 1, 1) rfl) (by decide) ?_
  refine mx_goto (pc := 38) 42 (mx_dd dd_X12_isHandle 20 (38, .goto 4, 3) rfl) rfl ?_
  exact mx_ireturn (pc := 42) (mx_dd dd_X12_isHandle 22 (42, .ireturn, 1) rfl) rfl rfl P
theorem b_X12_startsRedirection {d : Nat} {h : mxH} {Q : mxRes → mxH → Prop} (x0 : Nat)
    (P : 1 ≤ d ∧ hpK h x0 = 12 ∧ mx_SM mY_X12_hasFailed (d - 1) [.ref x0] h (mx_KI (fun v1 h1 => ((¬ v1 = 0 → Q (.inl (some (.int (0 : Int32)))) h1) ∧ (v1 = 0 → hpK h1 x0 = 12 ∧ mx_SM mY_X12_isHandle (d - 1) [.ref x0] h1 (mx_KI (fun v2 h2 => ((¬ v2 = 0 → mx_SX mY_X12_startsRedirection d 62 [] [] h2 Q) ∧ (v2 = 0 → hpK h2 x0 = 12 ∧ (((hpI h2 x0 7) = (60 : Int32) → mx_SX mY_X12_startsRedirection d 62 [] [] h2 Q) ∧ (¬ (hpI h2 x0 7) = (60 : Int32) → (((hpI h2 x0 7) = (62 : Int32) → mx_SX mY_X12_startsRedirection d 62 [] [] h2 Q) ∧ (¬ (hpI h2 x0 7) = (62 : Int32) → (((hpI h2 x0 7) = (15934 : Int32) → mx_SX mY_X12_startsRedirection d 62 [] [] h2 Q) ∧ (¬ (hpI h2 x0 7) = (15934 : Int32) → (((hpI h2 x0 7) = (15398 : Int32) → mx_SX mY_X12_startsRedirection d 62 [] [] h2 Q) ∧ (¬ (hpI h2 x0 7) = (15398 : Int32) → ((¬ (hpI h2 x0 7) = (15910 : Int32) → Q (.inl (some (.int (0 : Int32)))) h2) ∧ ((hpI h2 x0 7) = (15910 : Int32) → mx_SX mY_X12_startsRedirection d 62 [] [] h2 Q))))))))))))) (mx_XX mY_X12_startsRedirection Q))))) (mx_XX mY_X12_startsRedirection Q))) : mx_SM mY_X12_startsRedirection d [.ref x0] h Q := by
  refine mx_SM_of (by decide) (Nat.le_of_ble_eq_true rfl) ?_
  show mx_SX mY_X12_startsRedirection d 0 [(0, .ref x0)] [] h Q
  refine mx_aload_n (pc := 0) 0 (mx_dd dd_X12_startsRedirection 0 (0, .aload_n 0, 1) rfl) rfl rfl ?_
  obtain ⟨g1, P⟩ := P
  obtain ⟨g2, P⟩ := P
  refine mx_cVI (pc := 1) (Y := mY_X12_hasFailed) (As := []) mx_ml_X12_53 mx_y_X12_hasFailed rfl g2 (by decide) rfl (by decide) rfl (mx_dd dd_X12_startsRedirection 1 (1, .invokevirtual 53, 3) rfl) g1 (by decide) P (fun v1 h1 P => ?_)
  refine mx_if_ne (pc := 4) 66 (mx_dd dd_X12_startsRedirection 2 (4, .ifCond .ne 62, 3) rfl) rfl (fun c4 => ?_) (fun c4 => ?_)
  · have P := P.1 c4
    refine mx_iconst (pc := 66) (v := (0 : Int32)) (mx_dd dd_X12_startsRedirection 28 (66, .iconst 0, 1) rfl) (by decide) ?_
    exact mx_ireturn (pc := 67) (mx_dd dd_X12_startsRedirection 29 (67, .ireturn, 1) rfl) rfl rfl P
  · have P := P.2 c4
    refine mx_aload_n (pc := 7) 0 (mx_dd dd_X12_startsRedirection 3 (7, .aload_n 0, 1) rfl) rfl rfl ?_
    obtain ⟨g3, P⟩ := P
    refine mx_cVI (pc := 8) (Y := mY_X12_isHandle) (As := []) mx_ml_X12_262 mx_y_X12_isHandle rfl g3 (by decide) rfl (by decide) rfl (mx_dd dd_X12_startsRedirection 4 (8, .invokevirtual 262, 3) rfl) g1 (by decide) P (fun v2 h2 P => ?_)
    refine mx_if_ne (pc := 11) 62 (mx_dd dd_X12_startsRedirection 5 (11, .ifCond .ne 51, 3) rfl) rfl (fun c11 => ?_) (fun c11 => ?_)
    · have P := P.1 c11
      refine mx_sel [] rfl ?_
      exact P
    · have P := P.2 c11
      refine mx_aload_n (pc := 14) 0 (mx_dd dd_X12_startsRedirection 6 (14, .aload_n 0, 1) rfl) rfl rfl ?_
      obtain ⟨g4, P⟩ := P
      refine mx_getI (pc := 15) mx_fl_X12_40 g4 rfl (mx_dd dd_X12_startsRedirection 7 (15, .getfield 40, 3) rfl) ?_
      refine mx_bipush (pc := 18) (v := (60 : Int32)) (mx_dd dd_X12_startsRedirection 8 (18, .bipush 60, 2) rfl) (by decide) ?_
      refine mx_icmp_eq (pc := 20) 62 (mx_dd dd_X12_startsRedirection 9 (20, .if_icmp .eq 42, 3) rfl) rfl (fun c20 => ?_) (fun c20 => ?_)
      · have P := P.1 c20
        refine mx_sel [] rfl ?_
        exact P
      · have P := P.2 c20
        refine mx_aload_n (pc := 23) 0 (mx_dd dd_X12_startsRedirection 10 (23, .aload_n 0, 1) rfl) rfl rfl ?_
        refine mx_getI (pc := 24) mx_fl_X12_40 g4 rfl (mx_dd dd_X12_startsRedirection 11 (24, .getfield 40, 3) rfl) ?_
        refine mx_bipush (pc := 27) (v := (62 : Int32)) (mx_dd dd_X12_startsRedirection 12 (27, .bipush 62, 2) rfl) (by decide) ?_
        refine mx_icmp_eq (pc := 29) 62 (mx_dd dd_X12_startsRedirection 13 (29, .if_icmp .eq 33, 3) rfl) rfl (fun c29 => ?_) (fun c29 => ?_)
        · have P := P.1 c29
          refine mx_sel [] rfl ?_
          exact P
        · have P := P.2 c29
          refine mx_aload_n (pc := 32) 0 (mx_dd dd_X12_startsRedirection 14 (32, .aload_n 0, 1) rfl) rfl rfl ?_
          refine mx_getI (pc := 33) mx_fl_X12_40 g4 rfl (mx_dd dd_X12_startsRedirection 15 (33, .getfield 40, 3) rfl) ?_
          refine mx_sipush (pc := 36) (v := (15934 : Int32)) (mx_dd dd_X12_startsRedirection 16 (36, .sipush 15934, 3) rfl) (by decide) ?_
          refine mx_icmp_eq (pc := 39) 62 (mx_dd dd_X12_startsRedirection 17 (39, .if_icmp .eq 23, 3) rfl) rfl (fun c39 => ?_) (fun c39 => ?_)
          · have P := P.1 c39
            refine mx_sel [] rfl ?_
            exact P
          · have P := P.2 c39
            refine mx_aload_n (pc := 42) 0 (mx_dd dd_X12_startsRedirection 18 (42, .aload_n 0, 1) rfl) rfl rfl ?_
            refine mx_getI (pc := 43) mx_fl_X12_40 g4 rfl (mx_dd dd_X12_startsRedirection 19 (43, .getfield 40, 3) rfl) ?_
            refine mx_sipush (pc := 46) (v := (15398 : Int32)) (mx_dd dd_X12_startsRedirection 20 (46, .sipush 15398, 3) rfl) (by decide) ?_
            refine mx_icmp_eq (pc := 49) 62 (mx_dd dd_X12_startsRedirection 21 (49, .if_icmp .eq 13, 3) rfl) rfl (fun c49 => ?_) (fun c49 => ?_)
            · have P := P.1 c49
              refine mx_sel [] rfl ?_
              exact P
            · have P := P.2 c49
              refine mx_aload_n (pc := 52) 0 (mx_dd dd_X12_startsRedirection 22 (52, .aload_n 0, 1) rfl) rfl rfl ?_
              refine mx_getI (pc := 53) mx_fl_X12_40 g4 rfl (mx_dd dd_X12_startsRedirection 23 (53, .getfield 40, 3) rfl) ?_
              refine mx_sipush (pc := 56) (v := (15910 : Int32)) (mx_dd dd_X12_startsRedirection 24 (56, .sipush 15910, 3) rfl) (by decide) ?_
              refine mx_icmp_ne (pc := 59) 66 (mx_dd dd_X12_startsRedirection 25 (59, .if_icmp .ne 7, 3) rfl) rfl (fun c59 => ?_) (fun c59 => ?_)
              · have P := P.1 c59
                refine mx_iconst (pc := 66) (v := (0 : Int32)) (mx_dd dd_X12_startsRedirection 28 (66, .iconst 0, 1) rfl) (by decide) ?_
                exact mx_ireturn (pc := 67) (mx_dd dd_X12_startsRedirection 29 (67, .ireturn, 1) rfl) rfl rfl P
              · have P := P.2 c59
                refine mx_sel [] rfl ?_
                exact P
theorem b_X12_startsRedirection_62 {d : Nat} {h : mxH} {Q : mxRes → mxH → Prop} 
    (P : Q (.inl (some (.int (1 : Int32)))) h) : mx_SX mY_X12_startsRedirection d 62 [] [] h Q := by
  refine mx_iconst (pc := 62) (v := (1 : Int32)) (mx_dd dd_X12_startsRedirection 26 (62, .iconst 1, 1) rfl) (by decide) ?_
  refine mx_goto (pc := 63) 67 (mx_dd dd_X12_startsRedirection 27 (63, .goto 4, 3) rfl) rfl ?_
  exact mx_ireturn (pc := 67) (mx_dd dd_X12_startsRedirection 29 (67, .ireturn, 1) rfl) rfl rfl P
theorem b_X12_readRedirections {d : Nat} {h : mxH} {Q : mxRes → mxH → Prop} (x0 : Nat) (x1 : Int32)
    (P : mx_SX mY_X12_readRedirections d 2 [(0, .ref x0), (1, .int x1), (2, .int (-1 : Int32))] [] h Q) : mx_SM mY_X12_readRedirections d [.ref x0, .int x1] h Q := by
  refine mx_SM_of (by decide) (Nat.le_of_ble_eq_true rfl) ?_
  show mx_SX mY_X12_readRedirections d 0 [(0, .ref x0), (1, .int x1)] [] h Q
  refine mx_iconst (pc := 0) (v := (-1 : Int32)) (mx_dd dd_X12_readRedirections_0 0 (0, .iconst (-1), 1) rfl) (by decide) ?_
  refine mx_istore_n (pc := 1) (mx_dd dd_X12_readRedirections_0 1 (1, .istore_n 2, 1) rfl) rfl (by decide) (lv' := [(2, _), (0, _), (1, _)]) rfl ?_
  refine mx_sel [1, 2, 0] rfl ?_
  exact P
theorem b_X12_readRedirections_2 {d : Nat} {h : mxH} {Q : mxRes → mxH → Prop} (x0 : Nat) (x1 : Int32) (x2 : Int32)
    (P : 1 ≤ d ∧ hpK h x0 = 12 ∧ mx_SM mY_X12_startsRedirection (d - 1) [.ref x0] h (mx_KI (fun v1 h1 => ((v1 = 0 → Q (.inl none) h1) ∧ (¬ v1 = 0 → hpK h1 x0 = 12 ∧ mx_SM mY_X12_node (d - 1) [.ref x0, .int (14 : Int32)] h1 (mx_KI (fun v2 h2 => hpK h2 x0 = 12 ∧ mx_SM mY_X12_isHandle (d - 1) [.ref x0] h2 (mx_KI (fun v3 h3 => ((v3 = 0 → mx_SX mY_X12_readRedirections d 44 [(0, .ref x0), (1, .int x1), (2, .int x2), (3, .int v2), (4, .int (-1 : Int32))] [] h3 Q) ∧ (¬ v3 = 0 → hpK h3 x0 = 12 ∧ ∃ b1 : Nat, hpR h3 x0 1 = some b1 ∧ hpK h3 b1 = 13 ∧ vp_in (hpI h3 x0 5) (hpZ h3 b1) ∧ mx_SM mY_X12_passes (d - 1) [.ref x0] h3 (mx_KV (fun h4 => mx_SX mY_X12_readRedirections d 44 [(0, .ref x0), (1, .int x1), (2, .int x2), (3, .int v2), (4, .int ((hpI h3 b1 (hpI h3 x0 5).toNatClampNeg) - (48 : Int32)))] [] h4 Q) (mx_XX mY_X12_readRedirections Q))))) (mx_XX mY_X12_readRedirections Q))) (mx_XX mY_X12_readRedirections Q))))) (mx_XX mY_X12_readRedirections Q))) : mx_SX mY_X12_readRedirections d 2 [(0, .ref x0), (1, .int x1), (2, .int x2)] [] h Q := by
  refine mx_aload_n (pc := 2) 0 (mx_dd dd_X12_readRedirections_0 2 (2, .aload_n 0, 1) rfl) rfl rfl ?_
  obtain ⟨g1, P⟩ := P
  obtain ⟨g2, P⟩ := P
  refine mx_cVI (pc := 3) (Y := mY_X12_startsRedirection) (As := []) mx_ml_X12_268 mx_y_X12_startsRedirection rfl g2 (by decide) rfl (by decide) rfl (mx_dd dd_X12_readRedirections_0 3 (3, .invokevirtual 268, 3) rfl) g1 (by decide) P (fun v1 h1 P => ?_)
  refine mx_if_eq (pc := 6) 165 (mx_dd dd_X12_readRedirections_0 4 (6, .ifCond .eq 159, 3) rfl) rfl (fun c6 => ?_) (fun c6 => ?_)
  · have P := P.1 c6
    exact mx_return (pc := 165) (mx_dd dd_X12_readRedirections_2 8 (165, .return_, 1) rfl) rfl P
  · have P := P.2 c6
    refine mx_aload_n (pc := 9) 0 (mx_dd dd_X12_readRedirections_0 5 (9, .aload_n 0, 1) rfl) rfl rfl ?_
    refine mx_bipush (pc := 10) (v := (14 : Int32)) (mx_dd dd_X12_readRedirections_0 6 (10, .bipush 14, 2) rfl) (by decide) ?_
    obtain ⟨g3, P⟩ := P
    refine mx_cVI (pc := 12) (Y := mY_X12_node) (As := [.int _]) mx_ml_X12_172 mx_y_X12_node rfl g3 (by decide) rfl (by decide) rfl (mx_dd dd_X12_readRedirections_0 7 (12, .invokevirtual 172, 3) rfl) g1 (by decide) P (fun v2 h2 P => ?_)
    refine mx_istore_n (pc := 15) (mx_dd dd_X12_readRedirections_0 8 (15, .istore_n 3, 1) rfl) rfl (by decide) (lv' := [(3, _), (0, _), (1, _), (2, _)]) rfl ?_
    refine mx_iconst (pc := 16) (v := (-1 : Int32)) (mx_dd dd_X12_readRedirections_0 9 (16, .iconst (-1), 1) rfl) (by decide) ?_
    refine mx_istore (pc := 17) (mx_dd dd_X12_readRedirections_0 10 (17, .istore 4, 2) rfl) (by decide) (lv' := [(4, _), (3, _), (0, _), (1, _), (2, _)]) rfl ?_
    refine mx_aload_n (pc := 19) 2 (mx_dd dd_X12_readRedirections_0 11 (19, .aload_n 0, 1) rfl) rfl rfl ?_
    obtain ⟨g4, P⟩ := P
    refine mx_cVI (pc := 20) (Y := mY_X12_isHandle) (As := []) mx_ml_X12_262 mx_y_X12_isHandle rfl g4 (by decide) rfl (by decide) rfl (mx_dd dd_X12_readRedirections_0 12 (20, .invokevirtual 262, 3) rfl) g1 (by decide) P (fun v3 h3 P => ?_)
    refine mx_if_eq (pc := 23) 44 (mx_dd dd_X12_readRedirections_0 13 (23, .ifCond .eq 21, 3) rfl) rfl (fun c23 => ?_) (fun c23 => ?_)
    · have P := P.1 c23
      refine mx_sel [2, 3, 4, 1, 0] rfl ?_
      exact P
    · have P := P.2 c23
      refine mx_aload_n (pc := 26) 2 (mx_dd dd_X12_readRedirections_0 14 (26, .aload_n 0, 1) rfl) rfl rfl ?_
      obtain ⟨g5, P⟩ := P
      obtain ⟨b1, g6, P⟩ := P
      refine mx_getR (pc := 27) mx_fl_X12_14 g5 rfl g6 (mx_dd dd_X12_readRedirections_0 15 (27, .getfield 14, 3) rfl) ?_
      refine mx_aload_n (pc := 30) 2 (mx_dd dd_X12_readRedirections_0 16 (30, .aload_n 0, 1) rfl) rfl rfl ?_
      refine mx_getI (pc := 31) mx_fl_X12_27 g5 rfl (mx_dd dd_X12_readRedirections_0 17 (31, .getfield 27, 3) rfl) ?_
      obtain ⟨g7, P⟩ := P
      obtain ⟨g8, P⟩ := P
      refine mx_bald (pc := 34) g7 g8 (mx_dd dd_X12_readRedirections_0 18 (34, .baload, 1) rfl) ?_
      refine mx_bipush (pc := 35) (v := (48 : Int32)) (mx_dd dd_X12_readRedirections_0 19 (35, .bipush 48, 2) rfl) (by decide) ?_
      refine mx_isub (pc := 37) (mx_dd dd_X12_readRedirections_0 20 (37, .isub, 1) rfl) ?_
      refine mx_istore (pc := 38) (mx_dd dd_X12_readRedirections_0 21 (38, .istore 4, 2) rfl) (by decide) (lv' := [(4, _), (3, _), (0, _), (1, _), (2, _)]) rfl ?_
      refine mx_aload_n (pc := 40) 2 (mx_dd dd_X12_readRedirections_0 22 (40, .aload_n 0, 1) rfl) rfl rfl ?_
      refine mx_cVV (pc := 41) (Y := mY_X12_passes) (As := []) mx_ml_X12_78 mx_y_X12_passes rfl g5 (by decide) rfl (by decide) rfl (mx_dd dd_X12_readRedirections_0 23 (41, .invokevirtual 78, 3) rfl) g1 (by decide) P (fun h4 P => ?_)
      refine mx_sel [2, 3, 4, 1, 0] rfl ?_
      exact P
theorem b_X12_readRedirections_44 {d : Nat} {h : mxH} {Q : mxRes → mxH → Prop} (x0 : Nat) (x1 : Int32) (x2 : Int32) (x3 : Int32) (x4 : Int32)
    (P : hpK h x0 = 12 ∧ ∃ b1 : Nat, hpR h x0 42 = some b1 ∧ ((x4 = (-1 : Int32) → (((hpI h x0 7) = (60 : Int32) → hpK h b1 = 14 ∧ vp_in x3 (hpZ h b1) ∧ ∀ h1 : mxH, h1 = hsI h b1 x3.toNatClampNeg (0 : Int32) → ∃ b2 : Nat, hpR h1 x0 43 = some b2 ∧ hpK h1 b2 = 14 ∧ vp_in x3 (hpZ h1 b2) ∧ ∀ h2 : mxH, h2 = hsI h1 b2 x3.toNatClampNeg (hpI h x0 7) → 1 ≤ d ∧ mx_SM mY_X12_passes (d - 1) [.ref x0] h2 (mx_KV (fun h3 => (((hpI h x0 7) = (15398 : Int32) → mx_SX mY_X12_readRedirections d 115 [(0, .ref x0), (1, .int x1), (2, .int x2), (3, .int x3)] [] h3 Q) ∧ (¬ (hpI h x0 7) = (15398 : Int32) → ((¬ (hpI h x0 7) = (15910 : Int32) → hpK h3 x0 = 12 ∧ ∃ b3 : Nat, hpR h3 x0 48 = some b3 ∧ mx_SM mY_X12_word (d - 1) [.ref x0] h3 (mx_KL (fun v1 h4 => hpK h4 b3 = 15 ∧ vp_in x3 (hpZ h4 b3) ∧ ∀ h5 : mxH, h5 = hsL h4 b3 x3.toNatClampNeg v1 → mx_SX mY_X12_readRedirections d 138 [(0, .ref x0), (1, .int x1), (2, .int x2), (3, .int x3)] [] h5 Q) (mx_XX mY_X12_readRedirections Q))) ∧ ((hpI h x0 7) = (15910 : Int32) → mx_SX mY_X12_readRedirections d 115 [(0, .ref x0), (1, .int x1), (2, .int x2), (3, .int x3)] [] h3 Q))))) (mx_XX mY_X12_readRedirections Q))) ∧ (¬ (hpI h x0 7) = (60 : Int32) → ((¬ (hpI h x0 7) = (15398 : Int32) → hpK h b1 = 14 ∧ vp_in x3 (hpZ h b1) ∧ ∀ h6 : mxH, h6 = hsI h b1 x3.toNatClampNeg (1 : Int32) → ∃ b4 : Nat, hpR h6 x0 43 = some b4 ∧ hpK h6 b4 = 14 ∧ vp_in x3 (hpZ h6 b4) ∧ ∀ h7 : mxH, h7 = hsI h6 b4 x3.toNatClampNeg (hpI h x0 7) → 1 ≤ d ∧ mx_SM mY_X12_passes (d - 1) [.ref x0] h7 (mx_KV (fun h8 => (((hpI h x0 7) = (15398 : Int32) → mx_SX mY_X12_readRedirections d 115 [(0, .ref x0), (1, .int x1), (2, .int x2), (3, .int x3)] [] h8 Q) ∧ (¬ (hpI h x0 7) = (15398 : Int32) → ((¬ (hpI h x0 7) = (15910 : Int32) → hpK h8 x0 = 12 ∧ ∃ b5 : Nat, hpR h8 x0 48 = some b5 ∧ mx_SM mY_X12_word (d - 1) [.ref x0] h8 (mx_KL (fun v2 h9 => hpK h9 b5 = 15 ∧ vp_in x3 (hpZ h9 b5) ∧ ∀ h10 : mxH, h10 = hsL h9 b5 x3.toNatClampNeg v2 → mx_SX mY_X12_readRedirections d 138 [(0, .ref x0), (1, .int x1), (2, .int x2), (3, .int x3)] [] h10 Q) (mx_XX mY_X12_readRedirections Q))) ∧ ((hpI h x0 7) = (15910 : Int32) → mx_SX mY_X12_readRedirections d 115 [(0, .ref x0), (1, .int x1), (2, .int x2), (3, .int x3)] [] h8 Q))))) (mx_XX mY_X12_readRedirections Q))) ∧ ((hpI h x0 7) = (15398 : Int32) → hpK h b1 = 14 ∧ vp_in x3 (hpZ h b1) ∧ ∀ h11 : mxH, h11 = hsI h b1 x3.toNatClampNeg (0 : Int32) → ∃ b6 : Nat, hpR h11 x0 43 = some b6 ∧ hpK h11 b6 = 14 ∧ vp_in x3 (hpZ h11 b6) ∧ ∀ h12 : mxH, h12 = hsI h11 b6 x3.toNatClampNeg (hpI h x0 7) → 1 ≤ d ∧ mx_SM mY_X12_passes (d - 1) [.ref x0] h12 (mx_KV (fun h13 => (((hpI h x0 7) = (15398 : Int32) → mx_SX mY_X12_readRedirections d 115 [(0, .ref x0), (1, .int x1), (2, .int x2), (3, .int x3)] [] h13 Q) ∧ (¬ (hpI h x0 7) = (15398 : Int32) → ((¬ (hpI h x0 7) = (15910 : Int32) → hpK h13 x0 = 12 ∧ ∃ b7 : Nat, hpR h13 x0 48 = some b7 ∧ mx_SM mY_X12_word (d - 1) [.ref x0] h13 (mx_KL (fun v3 h14 => hpK h14 b7 = 15 ∧ vp_in x3 (hpZ h14 b7) ∧ ∀ h15 : mxH, h15 = hsL h14 b7 x3.toNatClampNeg v3 → mx_SX mY_X12_readRedirections d 138 [(0, .ref x0), (1, .int x1), (2, .int x2), (3, .int x3)] [] h15 Q) (mx_XX mY_X12_readRedirections Q))) ∧ ((hpI h x0 7) = (15910 : Int32) → mx_SX mY_X12_readRedirections d 115 [(0, .ref x0), (1, .int x1), (2, .int x2), (3, .int x3)] [] h13 Q))))) (mx_XX mY_X12_readRedirections Q))))))) ∧ (¬ x4 = (-1 : Int32) → hpK h b1 = 14 ∧ vp_in x3 (hpZ h b1) ∧ ∀ h16 : mxH, h16 = hsI h b1 x3.toNatClampNeg x4 → ∃ b8 : Nat, hpR h16 x0 43 = some b8 ∧ hpK h16 b8 = 14 ∧ vp_in x3 (hpZ h16 b8) ∧ ∀ h17 : mxH, h17 = hsI h16 b8 x3.toNatClampNeg (hpI h x0 7) → 1 ≤ d ∧ mx_SM mY_X12_passes (d - 1) [.ref x0] h17 (mx_KV (fun h18 => (((hpI h x0 7) = (15398 : Int32) → mx_SX mY_X12_readRedirections d 115 [(0, .ref x0), (1, .int x1), (2, .int x2), (3, .int x3)] [] h18 Q) ∧ (¬ (hpI h x0 7) = (15398 : Int32) → ((¬ (hpI h x0 7) = (15910 : Int32) → hpK h18 x0 = 12 ∧ ∃ b9 : Nat, hpR h18 x0 48 = some b9 ∧ mx_SM mY_X12_word (d - 1) [.ref x0] h18 (mx_KL (fun v4 h19 => hpK h19 b9 = 15 ∧ vp_in x3 (hpZ h19 b9) ∧ ∀ h20 : mxH, h20 = hsL h19 b9 x3.toNatClampNeg v4 → mx_SX mY_X12_readRedirections d 138 [(0, .ref x0), (1, .int x1), (2, .int x2), (3, .int x3)] [] h20 Q) (mx_XX mY_X12_readRedirections Q))) ∧ ((hpI h x0 7) = (15910 : Int32) → mx_SX mY_X12_readRedirections d 115 [(0, .ref x0), (1, .int x1), (2, .int x2), (3, .int x3)] [] h18 Q))))) (mx_XX mY_X12_readRedirections Q))))) : mx_SX mY_X12_readRedirections d 44 [(0, .ref x0), (1, .int x1), (2, .int x2), (3, .int x3), (4, .int x4)] [] h Q := by
  refine mx_aload_n (pc := 44) 0 (mx_dd dd_X12_readRedirections_0 24 (44, .aload_n 0, 1) rfl) rfl rfl ?_
  obtain ⟨g1, P⟩ := P
  refine mx_getI (pc := 45) mx_fl_X12_40 g1 rfl (mx_dd dd_X12_readRedirections_0 25 (45, .getfield 40, 3) rfl) ?_
  refine mx_istore (pc := 48) (mx_dd dd_X12_readRedirections_0 26 (48, .istore 5, 2) rfl) (by decide) (lv' := [(5, _), (0, _), (1, _), (2, _), (3, _), (4, _)]) rfl ?_
  refine mx_aload_n (pc := 50) 1 (mx_dd dd_X12_readRedirections_0 27 (50, .aload_n 0, 1) rfl) rfl rfl ?_
  obtain ⟨b1, g2, P⟩ := P
  refine mx_getR (pc := 51) mx_fl_X12_140 g1 rfl g2 (mx_dd dd_X12_readRedirections_0 28 (51, .getfield 140, 3) rfl) ?_
  refine mx_iload_n (pc := 54) 4 (mx_dd dd_X12_readRedirections_0 29 (54, .iload_n 3, 1) rfl) rfl rfl ?_
  refine mx_iload (pc := 55) 5 (mx_dd dd_X12_readRedirections_0 30 (55, .iload 4, 2) rfl) rfl ?_
  refine mx_iconst (pc := 57) (v := (-1 : Int32)) (mx_dd dd_X12_readRedirections_0 31 (57, .iconst (-1), 1) rfl) (by decide) ?_
  refine mx_icmp_eq (pc := 58) 66 (mx_dd dd_X12_readRedirections_0 32 (58, .if_icmp .eq 8, 3) rfl) rfl (fun c58 => ?_) (fun c58 => ?_)
  · have P := P.1 c58
    refine mx_iload (pc := 66) 0 (mx_dd dd_X12_readRedirections_0 35 (66, .iload 5, 2) rfl) rfl ?_
    refine mx_bipush (pc := 68) (v := (60 : Int32)) (mx_dd dd_X12_readRedirections_0 36 (68, .bipush 60, 2) rfl) (by decide) ?_
    refine mx_icmp_eq (pc := 70) 81 (mx_dd dd_X12_readRedirections_0 37 (70, .if_icmp .eq 11, 3) rfl) rfl (fun c70 => ?_) (fun c70 => ?_)
    · have P := P.1 c70
      refine mx_iconst (pc := 81) (v := (0 : Int32)) (mx_dd dd_X12_readRedirections_1 1 (81, .iconst 0, 1) rfl) (by decide) ?_
      refine mx_goto (pc := 82) 86 (mx_dd dd_X12_readRedirections_1 2 (82, .goto 4, 3) rfl) rfl ?_
      obtain ⟨g3, P⟩ := P
      obtain ⟨g4, P⟩ := P
      refine mx_iast (pc := 86) g3 g4 (mx_dd dd_X12_readRedirections_1 4 (86, .iastore, 1) rfl) ?_
      have P := P _ rfl
      refine mx_aload_n (pc := 87) 1 (mx_dd dd_X12_readRedirections_1 5 (87, .aload_n 0, 1) rfl) rfl rfl ?_
      obtain ⟨b2, g5, P⟩ := P
      refine mx_getR (pc := 88) mx_fl_X12_143 g1 rfl g5 (mx_dd dd_X12_readRedirections_1 6 (88, .getfield 143, 3) rfl) ?_
      refine mx_iload_n (pc := 91) 4 (mx_dd dd_X12_readRedirections_1 7 (91, .iload_n 3, 1) rfl) rfl rfl ?_
      refine mx_iload (pc := 92) 0 (mx_dd dd_X12_readRedirections_1 8 (92, .iload 5, 2) rfl) rfl ?_
      obtain ⟨g6, P⟩ := P
      obtain ⟨g7, P⟩ := P
      refine mx_iast (pc := 94) g6 g7 (mx_dd dd_X12_readRedirections_1 9 (94, .iastore, 1) rfl) ?_
      have P := P _ rfl
      refine mx_aload_n (pc := 95) 1 (mx_dd dd_X12_readRedirections_1 10 (95, .aload_n 0, 1) rfl) rfl rfl ?_
      obtain ⟨g8, P⟩ := P
      refine mx_cVV (pc := 96) (Y := mY_X12_passes) (As := []) mx_ml_X12_78 mx_y_X12_passes rfl g1 (by decide) rfl (by decide) rfl (mx_dd dd_X12_readRedirections_1 11 (96, .invokevirtual 78, 3) rfl) g8 (by decide) P (fun h3 P => ?_)
      refine mx_iload (pc := 99) 0 (mx_dd dd_X12_readRedirections_1 12 (99, .iload 5, 2) rfl) rfl ?_
      refine mx_sipush (pc := 101) (v := (15398 : Int32)) (mx_dd dd_X12_readRedirections_1 13 (101, .sipush 15398, 3) rfl) (by decide) ?_
      refine mx_icmp_eq (pc := 104) 115 (mx_dd dd_X12_readRedirections_1 14 (104, .if_icmp .eq 11, 3) rfl) rfl (fun c104 => ?_) (fun c104 => ?_)
      · have P := P.1 c104
        refine mx_sel [1, 2, 3, 4] rfl ?_
        exact P
      · have P := P.2 c104
        refine mx_iload (pc := 107) 0 (mx_dd dd_X12_readRedirections_1 15 (107, .iload 5, 2) rfl) rfl ?_
        refine mx_sipush (pc := 109) (v := (15910 : Int32)) (mx_dd dd_X12_readRedirections_1 16 (109, .sipush 15910, 3) rfl) (by decide) ?_
        refine mx_icmp_ne (pc := 112) 128 (mx_dd dd_X12_readRedirections_1 17 (112, .if_icmp .ne 16, 3) rfl) rfl (fun c112 => ?_) (fun c112 => ?_)
        · have P := P.1 c112
          refine mx_aload_n (pc := 128) 1 (mx_dd dd_X12_readRedirections_1 25 (128, .aload_n 0, 1) rfl) rfl rfl ?_
          obtain ⟨g9, P⟩ := P
          obtain ⟨b3, g10, P⟩ := P
          refine mx_getR (pc := 129) mx_fl_X12_158 g9 rfl g10 (mx_dd dd_X12_readRedirections_1 26 (129, .getfield 158, 3) rfl) ?_
          refine mx_iload_n (pc := 132) 4 (mx_dd dd_X12_readRedirections_1 27 (132, .iload_n 3, 1) rfl) rfl rfl ?_
          refine mx_aload_n (pc := 133) 1 (mx_dd dd_X12_readRedirections_1 28 (133, .aload_n 0, 1) rfl) rfl rfl ?_
          refine mx_cVL (pc := 134) (Y := mY_X12_word) (As := []) mx_ml_X12_255 mx_y_X12_word rfl g9 (by decide) rfl (by simp [Value.category]) rfl (mx_dd dd_X12_readRedirections_1 29 (134, .invokevirtual 255, 3) rfl) g8 (by decide) P (fun v1 h4 P => ?_)
          obtain ⟨g11, P⟩ := P
          obtain ⟨g12, P⟩ := P
          refine mx_last (pc := 137) g11 g12 (mx_dd dd_X12_readRedirections_1 30 (137, .lastore, 1) rfl) ?_
          have P := P _ rfl
          refine mx_sel [1, 2, 3, 4] rfl ?_
          exact P
        · have P := P.2 c112
          refine mx_sel [1, 2, 3, 4] rfl ?_
          exact P
    · have P := P.2 c70
      refine mx_iload (pc := 73) 0 (mx_dd dd_X12_readRedirections_0 38 (73, .iload 5, 2) rfl) rfl ?_
      refine mx_sipush (pc := 75) (v := (15398 : Int32)) (mx_dd dd_X12_readRedirections_0 39 (75, .sipush 15398, 3) rfl) (by decide) ?_
      refine mx_icmp_ne (pc := 78) 85 (mx_dd dd_X12_readRedirections_1 0 (78, .if_icmp .ne 7, 3) rfl) rfl (fun c78 => ?_) (fun c78 => ?_)
      · have P := P.1 c78
        refine mx_iconst (pc := 85) (v := (1 : Int32)) (mx_dd dd_X12_readRedirections_1 3 (85, .iconst 1, 1) rfl) (by decide) ?_
        obtain ⟨g13, P⟩ := P
        obtain ⟨g14, P⟩ := P
        refine mx_iast (pc := 86) g13 g14 (mx_dd dd_X12_readRedirections_1 4 (86, .iastore, 1) rfl) ?_
        have P := P _ rfl
        refine mx_aload_n (pc := 87) 1 (mx_dd dd_X12_readRedirections_1 5 (87, .aload_n 0, 1) rfl) rfl rfl ?_
        obtain ⟨b4, g15, P⟩ := P
        refine mx_getR (pc := 88) mx_fl_X12_143 g1 rfl g15 (mx_dd dd_X12_readRedirections_1 6 (88, .getfield 143, 3) rfl) ?_
        refine mx_iload_n (pc := 91) 4 (mx_dd dd_X12_readRedirections_1 7 (91, .iload_n 3, 1) rfl) rfl rfl ?_
        refine mx_iload (pc := 92) 0 (mx_dd dd_X12_readRedirections_1 8 (92, .iload 5, 2) rfl) rfl ?_
        obtain ⟨g16, P⟩ := P
        obtain ⟨g17, P⟩ := P
        refine mx_iast (pc := 94) g16 g17 (mx_dd dd_X12_readRedirections_1 9 (94, .iastore, 1) rfl) ?_
        have P := P _ rfl
        refine mx_aload_n (pc := 95) 1 (mx_dd dd_X12_readRedirections_1 10 (95, .aload_n 0, 1) rfl) rfl rfl ?_
        obtain ⟨g18, P⟩ := P
        refine mx_cVV (pc := 96) (Y := mY_X12_passes) (As := []) mx_ml_X12_78 mx_y_X12_passes rfl g1 (by decide) rfl (by decide) rfl (mx_dd dd_X12_readRedirections_1 11 (96, .invokevirtual 78, 3) rfl) g18 (by decide) P (fun h8 P => ?_)
        refine mx_iload (pc := 99) 0 (mx_dd dd_X12_readRedirections_1 12 (99, .iload 5, 2) rfl) rfl ?_
        refine mx_sipush (pc := 101) (v := (15398 : Int32)) (mx_dd dd_X12_readRedirections_1 13 (101, .sipush 15398, 3) rfl) (by decide) ?_
        refine mx_icmp_eq (pc := 104) 115 (mx_dd dd_X12_readRedirections_1 14 (104, .if_icmp .eq 11, 3) rfl) rfl (fun c104 => ?_) (fun c104 => ?_)
        · have P := P.1 c104
          refine mx_sel [1, 2, 3, 4] rfl ?_
          exact P
        · have P := P.2 c104
          refine mx_iload (pc := 107) 0 (mx_dd dd_X12_readRedirections_1 15 (107, .iload 5, 2) rfl) rfl ?_
          refine mx_sipush (pc := 109) (v := (15910 : Int32)) (mx_dd dd_X12_readRedirections_1 16 (109, .sipush 15910, 3) rfl) (by decide) ?_
          refine mx_icmp_ne (pc := 112) 128 (mx_dd dd_X12_readRedirections_1 17 (112, .if_icmp .ne 16, 3) rfl) rfl (fun c112 => ?_) (fun c112 => ?_)
          · have P := P.1 c112
            refine mx_aload_n (pc := 128) 1 (mx_dd dd_X12_readRedirections_1 25 (128, .aload_n 0, 1) rfl) rfl rfl ?_
            obtain ⟨g19, P⟩ := P
            obtain ⟨b5, g20, P⟩ := P
            refine mx_getR (pc := 129) mx_fl_X12_158 g19 rfl g20 (mx_dd dd_X12_readRedirections_1 26 (129, .getfield 158, 3) rfl) ?_
            refine mx_iload_n (pc := 132) 4 (mx_dd dd_X12_readRedirections_1 27 (132, .iload_n 3, 1) rfl) rfl rfl ?_
            refine mx_aload_n (pc := 133) 1 (mx_dd dd_X12_readRedirections_1 28 (133, .aload_n 0, 1) rfl) rfl rfl ?_
            refine mx_cVL (pc := 134) (Y := mY_X12_word) (As := []) mx_ml_X12_255 mx_y_X12_word rfl g19 (by decide) rfl (by simp [Value.category]) rfl (mx_dd dd_X12_readRedirections_1 29 (134, .invokevirtual 255, 3) rfl) g18 (by decide) P (fun v2 h9 P => ?_)
            obtain ⟨g21, P⟩ := P
            obtain ⟨g22, P⟩ := P
            refine mx_last (pc := 137) g21 g22 (mx_dd dd_X12_readRedirections_1 30 (137, .lastore, 1) rfl) ?_
            have P := P _ rfl
            refine mx_sel [1, 2, 3, 4] rfl ?_
            exact P
          · have P := P.2 c112
            refine mx_sel [1, 2, 3, 4] rfl ?_
            exact P
      · have P := P.2 c78
        refine mx_iconst (pc := 81) (v := (0 : Int32)) (mx_dd dd_X12_readRedirections_1 1 (81, .iconst 0, 1) rfl) (by decide) ?_
        refine mx_goto (pc := 82) 86 (mx_dd dd_X12_readRedirections_1 2 (82, .goto 4, 3) rfl) rfl ?_
        obtain ⟨g23, P⟩ := P
        obtain ⟨g24, P⟩ := P
        refine mx_iast (pc := 86) g23 g24 (mx_dd dd_X12_readRedirections_1 4 (86, .iastore, 1) rfl) ?_
        have P := P _ rfl
        refine mx_aload_n (pc := 87) 1 (mx_dd dd_X12_readRedirections_1 5 (87, .aload_n 0, 1) rfl) rfl rfl ?_
        obtain ⟨b6, g25, P⟩ := P
        refine mx_getR (pc := 88) mx_fl_X12_143 g1 rfl g25 (mx_dd dd_X12_readRedirections_1 6 (88, .getfield 143, 3) rfl) ?_
        refine mx_iload_n (pc := 91) 4 (mx_dd dd_X12_readRedirections_1 7 (91, .iload_n 3, 1) rfl) rfl rfl ?_
        refine mx_iload (pc := 92) 0 (mx_dd dd_X12_readRedirections_1 8 (92, .iload 5, 2) rfl) rfl ?_
        obtain ⟨g26, P⟩ := P
        obtain ⟨g27, P⟩ := P
        refine mx_iast (pc := 94) g26 g27 (mx_dd dd_X12_readRedirections_1 9 (94, .iastore, 1) rfl) ?_
        have P := P _ rfl
        refine mx_aload_n (pc := 95) 1 (mx_dd dd_X12_readRedirections_1 10 (95, .aload_n 0, 1) rfl) rfl rfl ?_
        obtain ⟨g28, P⟩ := P
        refine mx_cVV (pc := 96) (Y := mY_X12_passes) (As := []) mx_ml_X12_78 mx_y_X12_passes rfl g1 (by decide) rfl (by decide) rfl (mx_dd dd_X12_readRedirections_1 11 (96, .invokevirtual 78, 3) rfl) g28 (by decide) P (fun h13 P => ?_)
        refine mx_iload (pc := 99) 0 (mx_dd dd_X12_readRedirections_1 12 (99, .iload 5, 2) rfl) rfl ?_
        refine mx_sipush (pc := 101) (v := (15398 : Int32)) (mx_dd dd_X12_readRedirections_1 13 (101, .sipush 15398, 3) rfl) (by decide) ?_
        refine mx_icmp_eq (pc := 104) 115 (mx_dd dd_X12_readRedirections_1 14 (104, .if_icmp .eq 11, 3) rfl) rfl (fun c104 => ?_) (fun c104 => ?_)
        · have P := P.1 c104
          refine mx_sel [1, 2, 3, 4] rfl ?_
          exact P
        · have P := P.2 c104
          refine mx_iload (pc := 107) 0 (mx_dd dd_X12_readRedirections_1 15 (107, .iload 5, 2) rfl) rfl ?_
          refine mx_sipush (pc := 109) (v := (15910 : Int32)) (mx_dd dd_X12_readRedirections_1 16 (109, .sipush 15910, 3) rfl) (by decide) ?_
          refine mx_icmp_ne (pc := 112) 128 (mx_dd dd_X12_readRedirections_1 17 (112, .if_icmp .ne 16, 3) rfl) rfl (fun c112 => ?_) (fun c112 => ?_)
          · have P := P.1 c112
            refine mx_aload_n (pc := 128) 1 (mx_dd dd_X12_readRedirections_1 25 (128, .aload_n 0, 1) rfl) rfl rfl ?_
            obtain ⟨g29, P⟩ := P
            obtain ⟨b7, g30, P⟩ := P
            refine mx_getR (pc := 129) mx_fl_X12_158 g29 rfl g30 (mx_dd dd_X12_readRedirections_1 26 (129, .getfield 158, 3) rfl) ?_
            refine mx_iload_n (pc := 132) 4 (mx_dd dd_X12_readRedirections_1 27 (132, .iload_n 3, 1) rfl) rfl rfl ?_
            refine mx_aload_n (pc := 133) 1 (mx_dd dd_X12_readRedirections_1 28 (133, .aload_n 0, 1) rfl) rfl rfl ?_
            refine mx_cVL (pc := 134) (Y := mY_X12_word) (As := []) mx_ml_X12_255 mx_y_X12_word rfl g29 (by decide) rfl (by simp [Value.category]) rfl (mx_dd dd_X12_readRedirections_1 29 (134, .invokevirtual 255, 3) rfl) g28 (by decide) P (fun v3 h14 P => ?_)
            obtain ⟨g31, P⟩ := P
            obtain ⟨g32, P⟩ := P
            refine mx_last (pc := 137) g31 g32 (mx_dd dd_X12_readRedirections_1 30 (137, .lastore, 1) rfl) ?_
            have P := P _ rfl
            refine mx_sel [1, 2, 3, 4] rfl ?_
            exact P
          · have P := P.2 c112
            refine mx_sel [1, 2, 3, 4] rfl ?_
            exact P
  · have P := P.2 c58
    refine mx_iload (pc := 61) 5 (mx_dd dd_X12_readRedirections_0 33 (61, .iload 4, 2) rfl) rfl ?_
    refine mx_goto (pc := 63) 86 (mx_dd dd_X12_readRedirections_0 34 (63, .goto 23, 3) rfl) rfl ?_
    obtain ⟨g33, P⟩ := P
    obtain ⟨g34, P⟩ := P
    refine mx_iast (pc := 86) g33 g34 (mx_dd dd_X12_readRedirections_1 4 (86, .iastore, 1) rfl) ?_
    have P := P _ rfl
    refine mx_aload_n (pc := 87) 1 (mx_dd dd_X12_readRedirections_1 5 (87, .aload_n 0, 1) rfl) rfl rfl ?_
    obtain ⟨b8, g35, P⟩ := P
    refine mx_getR (pc := 88) mx_fl_X12_143 g1 rfl g35 (mx_dd dd_X12_readRedirections_1 6 (88, .getfield 143, 3) rfl) ?_
    refine mx_iload_n (pc := 91) 4 (mx_dd dd_X12_readRedirections_1 7 (91, .iload_n 3, 1) rfl) rfl rfl ?_
    refine mx_iload (pc := 92) 0 (mx_dd dd_X12_readRedirections_1 8 (92, .iload 5, 2) rfl) rfl ?_
    obtain ⟨g36, P⟩ := P
    obtain ⟨g37, P⟩ := P
    refine mx_iast (pc := 94) g36 g37 (mx_dd dd_X12_readRedirections_1 9 (94, .iastore, 1) rfl) ?_
    have P := P _ rfl
    refine mx_aload_n (pc := 95) 1 (mx_dd dd_X12_readRedirections_1 10 (95, .aload_n 0, 1) rfl) rfl rfl ?_
    obtain ⟨g38, P⟩ := P
    refine mx_cVV (pc := 96) (Y := mY_X12_passes) (As := []) mx_ml_X12_78 mx_y_X12_passes rfl g1 (by decide) rfl (by decide) rfl (mx_dd dd_X12_readRedirections_1 11 (96, .invokevirtual 78, 3) rfl) g38 (by decide) P (fun h18 P => ?_)
    refine mx_iload (pc := 99) 0 (mx_dd dd_X12_readRedirections_1 12 (99, .iload 5, 2) rfl) rfl ?_
    refine mx_sipush (pc := 101) (v := (15398 : Int32)) (mx_dd dd_X12_readRedirections_1 13 (101, .sipush 15398, 3) rfl) (by decide) ?_
    refine mx_icmp_eq (pc := 104) 115 (mx_dd dd_X12_readRedirections_1 14 (104, .if_icmp .eq 11, 3) rfl) rfl (fun c104 => ?_) (fun c104 => ?_)
    · have P := P.1 c104
      refine mx_sel [1, 2, 3, 4] rfl ?_
      exact P
    · have P := P.2 c104
      refine mx_iload (pc := 107) 0 (mx_dd dd_X12_readRedirections_1 15 (107, .iload 5, 2) rfl) rfl ?_
      refine mx_sipush (pc := 109) (v := (15910 : Int32)) (mx_dd dd_X12_readRedirections_1 16 (109, .sipush 15910, 3) rfl) (by decide) ?_
      refine mx_icmp_ne (pc := 112) 128 (mx_dd dd_X12_readRedirections_1 17 (112, .if_icmp .ne 16, 3) rfl) rfl (fun c112 => ?_) (fun c112 => ?_)
      · have P := P.1 c112
        refine mx_aload_n (pc := 128) 1 (mx_dd dd_X12_readRedirections_1 25 (128, .aload_n 0, 1) rfl) rfl rfl ?_
        obtain ⟨g39, P⟩ := P
        obtain ⟨b9, g40, P⟩ := P
        refine mx_getR (pc := 129) mx_fl_X12_158 g39 rfl g40 (mx_dd dd_X12_readRedirections_1 26 (129, .getfield 158, 3) rfl) ?_
        refine mx_iload_n (pc := 132) 4 (mx_dd dd_X12_readRedirections_1 27 (132, .iload_n 3, 1) rfl) rfl rfl ?_
        refine mx_aload_n (pc := 133) 1 (mx_dd dd_X12_readRedirections_1 28 (133, .aload_n 0, 1) rfl) rfl rfl ?_
        refine mx_cVL (pc := 134) (Y := mY_X12_word) (As := []) mx_ml_X12_255 mx_y_X12_word rfl g39 (by decide) rfl (by simp [Value.category]) rfl (mx_dd dd_X12_readRedirections_1 29 (134, .invokevirtual 255, 3) rfl) g38 (by decide) P (fun v4 h19 P => ?_)
        obtain ⟨g41, P⟩ := P
        obtain ⟨g42, P⟩ := P
        refine mx_last (pc := 137) g41 g42 (mx_dd dd_X12_readRedirections_1 30 (137, .lastore, 1) rfl) ?_
        have P := P _ rfl
        refine mx_sel [1, 2, 3, 4] rfl ?_
        exact P
      · have P := P.2 c112
        refine mx_sel [1, 2, 3, 4] rfl ?_
        exact P
theorem b_X12_readRedirections_115 {d : Nat} {h : mxH} {Q : mxRes → mxH → Prop} (x0 : Nat) (x1 : Int32) (x2 : Int32) (x3 : Int32)
    (P : hpK h x0 = 12 ∧ ∃ b1 : Nat, hpR h x0 44 = some b1 ∧ 1 ≤ d ∧ mx_SM mY_X12_readTarget (d - 1) [.ref x0] h (mx_KI (fun v1 h1 => hpK h1 b1 = 14 ∧ vp_in x3 (hpZ h1 b1) ∧ ∀ h2 : mxH, h2 = hsI h1 b1 x3.toNatClampNeg v1 → mx_SX mY_X12_readRedirections d 138 [(0, .ref x0), (1, .int x1), (2, .int x2), (3, .int x3)] [] h2 Q) (mx_XX mY_X12_readRedirections Q))) : mx_SX mY_X12_readRedirections d 115 [(0, .ref x0), (1, .int x1), (2, .int x2), (3, .int x3)] [] h Q := by
  refine mx_aload_n (pc := 115) 0 (mx_dd dd_X12_readRedirections_1 18 (115, .aload_n 0, 1) rfl) rfl rfl ?_
  obtain ⟨g1, P⟩ := P
  obtain ⟨b1, g2, P⟩ := P
  refine mx_getR (pc := 116) mx_fl_X12_146 g1 rfl g2 (mx_dd dd_X12_readRedirections_1 19 (116, .getfield 146, 3) rfl) ?_
  refine mx_iload_n (pc := 119) 3 (mx_dd dd_X12_readRedirections_1 20 (119, .iload_n 3, 1) rfl) rfl rfl ?_
  refine mx_aload_n (pc := 120) 0 (mx_dd dd_X12_readRedirections_1 21 (120, .aload_n 0, 1) rfl) rfl rfl ?_
  obtain ⟨g3, P⟩ := P
  refine mx_cVI (pc := 121) (Y := mY_X12_readTarget) (As := []) mx_ml_X12_271 mx_y_X12_readTarget rfl g1 (by decide) rfl (by simp [Value.category]) rfl (mx_dd dd_X12_readRedirections_1 22 (121, .invokevirtual 271, 3) rfl) g3 (by decide) P (fun v1 h1 P => ?_)
  obtain ⟨g4, P⟩ := P
  obtain ⟨g5, P⟩ := P
  refine mx_iast (pc := 124) g4 g5 (mx_dd dd_X12_readRedirections_1 23 (124, .iastore, 1) rfl) ?_
  have P := P _ rfl
  refine mx_goto (pc := 125) 138 (mx_dd dd_X12_readRedirections_1 24 (125, .goto 13, 3) rfl) rfl ?_
  exact P
theorem b_X12_readRedirections_138 {d : Nat} {h : mxH} {Q : mxRes → mxH → Prop} (x0 : Nat) (x1 : Int32) (x2 : Int32) (x3 : Int32)
    (P : ((¬ x2 = (-1 : Int32) → hpK h x0 = 12 ∧ ∃ b1 : Nat, hpR h x0 46 = some b1 ∧ hpK h b1 = 14 ∧ vp_in x2 (hpZ h b1) ∧ ∀ h1 : mxH, h1 = hsI h b1 x2.toNatClampNeg x3 → mx_SX mY_X12_readRedirections d 160 [(0, .ref x0), (1, .int x1), (3, .int x3)] [] h1 Q) ∧ (x2 = (-1 : Int32) → hpK h x0 = 12 ∧ ∃ b2 : Nat, hpR h x0 45 = some b2 ∧ hpK h b2 = 14 ∧ vp_in x1 (hpZ h b2) ∧ ∀ h2 : mxH, h2 = hsI h b2 x1.toNatClampNeg x3 → mx_SX mY_X12_readRedirections d 160 [(0, .ref x0), (1, .int x1), (3, .int x3)] [] h2 Q))) : mx_SX mY_X12_readRedirections d 138 [(0, .ref x0), (1, .int x1), (2, .int x2), (3, .int x3)] [] h Q := by
  refine mx_iload_n (pc := 138) 2 (mx_dd dd_X12_readRedirections_1 31 (138, .iload_n 2, 1) rfl) rfl rfl ?_
  refine mx_iconst (pc := 139) (v := (-1 : Int32)) (mx_dd dd_X12_readRedirections_1 32 (139, .iconst (-1), 1) rfl) (by decide) ?_
  refine mx_icmp_ne (pc := 140) 153 (mx_dd dd_X12_readRedirections_1 33 (140, .if_icmp .ne 13, 3) rfl) rfl (fun c140 => ?_) (fun c140 => ?_)
  · have P := P.1 c140
    refine mx_aload_n (pc := 153) 0 (mx_dd dd_X12_readRedirections_2 0 (153, .aload_n 0, 1) rfl) rfl rfl ?_
    obtain ⟨g1, P⟩ := P
    obtain ⟨b1, g2, P⟩ := P
    refine mx_getR (pc := 154) mx_fl_X12_152 g1 rfl g2 (mx_dd dd_X12_readRedirections_2 1 (154, .getfield 152, 3) rfl) ?_
    refine mx_iload_n (pc := 157) 2 (mx_dd dd_X12_readRedirections_2 2 (157, .iload_n 2, 1) rfl) rfl rfl ?_
    refine mx_iload_n (pc := 158) 3 (mx_dd dd_X12_readRedirections_2 3 (158, .iload_n 3, 1) rfl) rfl rfl ?_
    obtain ⟨g3, P⟩ := P
    obtain ⟨g4, P⟩ := P
    refine mx_iast (pc := 159) g3 g4 (mx_dd dd_X12_readRedirections_2 4 (159, .iastore, 1) rfl) ?_
    have P := P _ rfl
    refine mx_sel [0, 1, 3] rfl ?_
    exact P
  · have P := P.2 c140
    refine mx_aload_n (pc := 143) 0 (mx_dd dd_X12_readRedirections_1 34 (143, .aload_n 0, 1) rfl) rfl rfl ?_
    obtain ⟨g5, P⟩ := P
    obtain ⟨b2, g6, P⟩ := P
    refine mx_getR (pc := 144) mx_fl_X12_149 g5 rfl g6 (mx_dd dd_X12_readRedirections_1 35 (144, .getfield 149, 3) rfl) ?_
    refine mx_iload_n (pc := 147) 1 (mx_dd dd_X12_readRedirections_1 36 (147, .iload_n 1, 1) rfl) rfl rfl ?_
    refine mx_iload_n (pc := 148) 3 (mx_dd dd_X12_readRedirections_1 37 (148, .iload_n 3, 1) rfl) rfl rfl ?_
    obtain ⟨g7, P⟩ := P
    obtain ⟨g8, P⟩ := P
    refine mx_iast (pc := 149) g7 g8 (mx_dd dd_X12_readRedirections_1 38 (149, .iastore, 1) rfl) ?_
    have P := P _ rfl
    refine mx_goto (pc := 150) 160 (mx_dd dd_X12_readRedirections_1 39 (150, .goto 10, 3) rfl) rfl ?_
    refine mx_sel [0, 1, 3] rfl ?_
    exact P
theorem b_X12_readRedirections_160 {d : Nat} {h : mxH} {Q : mxRes → mxH → Prop} (x0 : Nat) (x1 : Int32) (x3 : Int32)
    (P : mx_SX mY_X12_readRedirections d 2 [(0, .ref x0), (1, .int x1), (2, .int x3)] [] h Q) : mx_SX mY_X12_readRedirections d 160 [(0, .ref x0), (1, .int x1), (3, .int x3)] [] h Q := by
  refine mx_iload_n (pc := 160) 2 (mx_dd dd_X12_readRedirections_2 5 (160, .iload_n 3, 1) rfl) rfl rfl ?_
  refine mx_istore_n (pc := 161) (mx_dd dd_X12_readRedirections_2 6 (161, .istore_n 2, 1) rfl) rfl (by decide) (lv' := [(2, _), (0, _), (1, _), (3, _)]) rfl ?_
  refine mx_goto (pc := 162) 2 (mx_dd dd_X12_readRedirections_2 7 (162, .goto (-160), 3) rfl) rfl ?_
  refine mx_sel [1, 2, 0] rfl ?_
  exact P
theorem b_X12_readTarget {d : Nat} {h : mxH} {Q : mxRes → mxH → Prop} (x0 : Nat)
    (P : 1 ≤ d ∧ hpK h x0 = 12 ∧ mx_SM mY_X12_takes (d - 1) [.ref x0, .int (45 : Int32)] h (mx_KI (fun v1 h1 => ((v1 = 0 → hpK h1 x0 = 12 ∧ mx_SM mY_X12_hasFailed (d - 1) [.ref x0] h1 (mx_KI (fun v2 h2 => ((v2 = 0 → hpK h2 x0 = 12 ∧ mx_SM mY_X12_isDigitHere (d - 1) [.ref x0] h2 (mx_KI (fun v3 h3 => ((¬ v3 = 0 → mx_SX mY_X12_readTarget d 32 [(0, .ref x0)] [] h3 Q) ∧ (v3 = 0 → hpK h3 x0 = 12 ∧ mx_SM mY_X12_fails (d - 1) [.ref x0, .int (1 : Int32)] h3 (mx_KV (fun h4 => mx_SX mY_X12_readTarget d 32 [(0, .ref x0)] [] h4 Q) (mx_XX mY_X12_readTarget Q))))) (mx_XX mY_X12_readTarget Q))) ∧ (¬ v2 = 0 → Q (.inl (some (.int (-1 : Int32)))) h2))) (mx_XX mY_X12_readTarget Q))) ∧ (¬ v1 = 0 → Q (.inl (some (.int (-1 : Int32)))) h1))) (mx_XX mY_X12_readTarget Q))) : mx_SM mY_X12_readTarget d [.ref x0] h Q := by
  refine mx_SM_of (by decide) (Nat.le_of_ble_eq_true rfl) ?_
  show mx_SX mY_X12_readTarget d 0 [(0, .ref x0)] [] h Q
  refine mx_aload_n (pc := 0) 0 (mx_dd dd_X12_readTarget 0 (0, .aload_n 0, 1) rfl) rfl rfl ?_
  refine mx_bipush (pc := 1) (v := (45 : Int32)) (mx_dd dd_X12_readTarget 1 (1, .bipush 45, 2) rfl) (by decide) ?_
  obtain ⟨g1, P⟩ := P
  obtain ⟨g2, P⟩ := P
  refine mx_cVI (pc := 3) (Y := mY_X12_takes) (As := [.int _]) mx_ml_X12_81 mx_y_X12_takes rfl g2 (by decide) rfl (by decide) rfl (mx_dd dd_X12_readTarget 2 (3, .invokevirtual 81, 3) rfl) g1 (by decide) P (fun v1 h1 P => ?_)
  refine mx_if_eq (pc := 6) 11 (mx_dd dd_X12_readTarget 3 (6, .ifCond .eq 5, 3) rfl) rfl (fun c6 => ?_) (fun c6 => ?_)
  · have P := P.1 c6
    refine mx_aload_n (pc := 11) 0 (mx_dd dd_X12_readTarget 6 (11, .aload_n 0, 1) rfl) rfl rfl ?_
    obtain ⟨g3, P⟩ := P
    refine mx_cVI (pc := 12) (Y := mY_X12_hasFailed) (As := []) mx_ml_X12_53 mx_y_X12_hasFailed rfl g3 (by decide) rfl (by decide) rfl (mx_dd dd_X12_readTarget 7 (12, .invokevirtual 53, 3) rfl) g1 (by decide) P (fun v2 h2 P => ?_)
    refine mx_if_eq (pc := 15) 20 (mx_dd dd_X12_readTarget 8 (15, .ifCond .eq 5, 3) rfl) rfl (fun c15 => ?_) (fun c15 => ?_)
    · have P := P.1 c15
      refine mx_aload_n (pc := 20) 0 (mx_dd dd_X12_readTarget 11 (20, .aload_n 0, 1) rfl) rfl rfl ?_
      obtain ⟨g4, P⟩ := P
      refine mx_cVI (pc := 21) (Y := mY_X12_isDigitHere) (As := []) mx_ml_X12_265 mx_y_X12_isDigitHere rfl g4 (by decide) rfl (by decide) rfl (mx_dd dd_X12_readTarget 12 (21, .invokevirtual 265, 3) rfl) g1 (by decide) P (fun v3 h3 P => ?_)
      refine mx_if_ne (pc := 24) 32 (mx_dd dd_X12_readTarget 13 (24, .ifCond .ne 8, 3) rfl) rfl (fun c24 => ?_) (fun c24 => ?_)
      · have P := P.1 c24
        exact P
      · have P := P.2 c24
        refine mx_aload_n (pc := 27) 0 (mx_dd dd_X12_readTarget 14 (27, .aload_n 0, 1) rfl) rfl rfl ?_
        refine mx_iconst (pc := 28) (v := (1 : Int32)) (mx_dd dd_X12_readTarget 15 (28, .iconst 1, 1) rfl) (by decide) ?_
        obtain ⟨g5, P⟩ := P
        refine mx_cVV (pc := 29) (Y := mY_X12_fails) (As := [.int _]) mx_ml_X12_84 mx_y_X12_fails rfl g5 (by decide) rfl (by decide) rfl (mx_dd dd_X12_readTarget 16 (29, .invokevirtual 84, 3) rfl) g1 (by decide) P (fun h4 P => ?_)
        exact P
    · have P := P.2 c15
      refine mx_iconst (pc := 18) (v := (-1 : Int32)) (mx_dd dd_X12_readTarget 9 (18, .iconst (-1), 1) rfl) (by decide) ?_
      exact mx_ireturn (pc := 19) (mx_dd dd_X12_readTarget 10 (19, .ireturn, 1) rfl) rfl rfl P
  · have P := P.2 c6
    refine mx_iconst (pc := 9) (v := (-1 : Int32)) (mx_dd dd_X12_readTarget 4 (9, .iconst (-1), 1) rfl) (by decide) ?_
    exact mx_ireturn (pc := 10) (mx_dd dd_X12_readTarget 5 (10, .ireturn, 1) rfl) rfl rfl P
theorem b_X12_readTarget_32 {d : Nat} {h : mxH} {Q : mxRes → mxH → Prop} (x0 : Nat)
    (P : 1 ≤ d ∧ hpK h x0 = 12 ∧ mx_SM mY_X12_hasFailed (d - 1) [.ref x0] h (mx_KI (fun v1 h1 => ((v1 = 0 → hpK h1 x0 = 12 ∧ ∃ b1 : Nat, hpR h1 x0 1 = some b1 ∧ hpK h1 b1 = 13 ∧ vp_in (hpI h1 x0 5) (hpZ h1 b1) ∧ mx_SM mY_X12_passes (d - 1) [.ref x0] h1 (mx_KV (fun h2 => Q (.inl (some (.int ((hpI h1 b1 (hpI h1 x0 5).toNatClampNeg) - (48 : Int32))))) h2) (mx_XX mY_X12_readTarget Q))) ∧ (¬ v1 = 0 → hpK h1 x0 = 12 ∧ mx_SM mY_X12_passes (d - 1) [.ref x0] h1 (mx_KV (fun h3 => Q (.inl (some (.int (-1 : Int32)))) h3) (mx_XX mY_X12_readTarget Q))))) (mx_XX mY_X12_readTarget Q))) : mx_SX mY_X12_readTarget d 32 [(0, .ref x0)] [] h Q := by
  refine mx_aload_n (pc := 32) 0 (mx_dd dd_X12_readTarget 17 (32, .aload_n 0, 1) rfl) rfl rfl ?_
  obtain ⟨g1, P⟩ := P
  obtain ⟨g2, P⟩ := P
  refine mx_cVI (pc := 33) (Y := mY_X12_hasFailed) (As := []) mx_ml_X12_53 mx_y_X12_hasFailed rfl g2 (by decide) rfl (by decide) rfl (mx_dd dd_X12_readTarget 18 (33, .invokevirtual 53, 3) rfl) g1 (by decide) P (fun v1 h1 P => ?_)
  refine mx_if_eq (pc := 36) 43 (mx_dd dd_X12_readTarget 19 (36, .ifCond .eq 7, 3) rfl) rfl (fun c36 => ?_) (fun c36 => ?_)
  · have P := P.1 c36
    refine mx_aload_n (pc := 43) 0 (mx_dd dd_X12_readTarget 22 (43, .aload_n 0, 1) rfl) rfl rfl ?_
    obtain ⟨g3, P⟩ := P
    obtain ⟨b1, g4, P⟩ := P
    refine mx_getR (pc := 44) mx_fl_X12_14 g3 rfl g4 (mx_dd dd_X12_readTarget 23 (44, .getfield 14, 3) rfl) ?_
    refine mx_aload_n (pc := 47) 0 (mx_dd dd_X12_readTarget 24 (47, .aload_n 0, 1) rfl) rfl rfl ?_
    refine mx_getI (pc := 48) mx_fl_X12_27 g3 rfl (mx_dd dd_X12_readTarget 25 (48, .getfield 27, 3) rfl) ?_
    obtain ⟨g5, P⟩ := P
    obtain ⟨g6, P⟩ := P
    refine mx_bald (pc := 51) g5 g6 (mx_dd dd_X12_readTarget 26 (51, .baload, 1) rfl) ?_
    refine mx_bipush (pc := 52) (v := (48 : Int32)) (mx_dd dd_X12_readTarget 27 (52, .bipush 48, 2) rfl) (by decide) ?_
    refine mx_isub (pc := 54) (mx_dd dd_X12_readTarget 28 (54, .isub, 1) rfl) ?_
    refine mx_istore_n (pc := 55) (mx_dd dd_X12_readTarget 29 (55, .istore_n 1, 1) rfl) rfl (by decide) (lv' := [(1, _), (0, _)]) rfl ?_
    refine mx_aload_n (pc := 56) 1 (mx_dd dd_X12_readTarget 30 (56, .aload_n 0, 1) rfl) rfl rfl ?_
    refine mx_cVV (pc := 57) (Y := mY_X12_passes) (As := []) mx_ml_X12_78 mx_y_X12_passes rfl g3 (by decide) rfl (by decide) rfl (mx_dd dd_X12_readTarget 31 (57, .invokevirtual 78, 3) rfl) g1 (by decide) P (fun h2 P => ?_)
    refine mx_iload_n (pc := 60) 0 (mx_dd dd_X12_readTarget 32 (60, .iload_n 1, 1) rfl) rfl rfl ?_
    exact mx_ireturn (pc := 61) (mx_dd dd_X12_readTarget 33 (61, .ireturn, 1) rfl) rfl rfl P
  · have P := P.2 c36
    refine mx_iconst (pc := 39) (v := (-1 : Int32)) (mx_dd dd_X12_readTarget 20 (39, .iconst (-1), 1) rfl) (by decide) ?_
    refine mx_goto (pc := 40) 55 (mx_dd dd_X12_readTarget 21 (40, .goto 15, 3) rfl) rfl ?_
    refine mx_istore_n (pc := 55) (mx_dd dd_X12_readTarget 29 (55, .istore_n 1, 1) rfl) rfl (by decide) (lv' := [(1, _), (0, _)]) rfl ?_
    refine mx_aload_n (pc := 56) 1 (mx_dd dd_X12_readTarget 30 (56, .aload_n 0, 1) rfl) rfl rfl ?_
    obtain ⟨g7, P⟩ := P
    refine mx_cVV (pc := 57) (Y := mY_X12_passes) (As := []) mx_ml_X12_78 mx_y_X12_passes rfl g7 (by decide) rfl (by decide) rfl (mx_dd dd_X12_readTarget 31 (57, .invokevirtual 78, 3) rfl) g1 (by decide) P (fun h3 P => ?_)
    refine mx_iload_n (pc := 60) 0 (mx_dd dd_X12_readTarget 32 (60, .iload_n 1, 1) rfl) rfl rfl ?_
    exact mx_ireturn (pc := 61) (mx_dd dd_X12_readTarget 33 (61, .ireturn, 1) rfl) rfl rfl P
theorem b_X12_load {d : Nat} {h : mxH} {Q : mxRes → mxH → Prop} (x0 : Nat)
    (P : hpK h x0 = 12 ∧ ∀ h1 : mxH, h1 = hsI h x0 0 (0 : Int32) → ∀ h2 : mxH, h2 = hsI h1 x0 4 (hpI h1 x0 3) → ∀ h3 : mxH, h3 = hsI h2 x0 3 (0 : Int32) → ∀ h4 : mxH, h4 = hsI h3 x0 5 (0 : Int32) → ∀ h5 : mxH, h5 = hsI h4 x0 49 (0 : Int32) → ∀ h6 : mxH, h6 = hsI h5 x0 9 (-1 : Int32) → ∀ h7 : mxH, h7 = hsI h6 x0 10 (0 : Int32) → 1 ≤ d ∧ mx_SM mY_X12_looks (d - 1) [.ref x0] h7 (mx_KV (fun h8 => hpK h8 x0 = 12 ∧ mx_SM mY_X12_readScript (d - 1) [.ref x0, .int (0 : Int32)] h8 (mx_KI (fun v1 h9 => hpK h9 x0 = 12 ∧ (((hpI h9 x0 7) = 0 → mx_SX mY_X12_load d 65 [(0, .ref x0), (1, .int v1), (2, .int (hpI h9 x0 51))] [] h9 Q) ∧ (¬ (hpI h9 x0 7) = 0 → mx_SM mY_X12_fails (d - 1) [.ref x0, .int (1 : Int32)] h9 (mx_KV (fun h10 => mx_SX mY_X12_load d 65 [(0, .ref x0), (1, .int v1), (2, .int (hpI h9 x0 51))] [] h10 Q) (mx_XX mY_X12_load Q))))) (mx_XX mY_X12_load Q))) (mx_XX mY_X12_load Q))) : mx_SM mY_X12_load d [.ref x0] h Q := by
  refine mx_SM_of (by decide) (Nat.le_of_ble_eq_true rfl) ?_
  show mx_SX mY_X12_load d 0 [(0, .ref x0)] [] h Q
  refine mx_aload_n (pc := 0) 0 (mx_dd dd_X12_load_0 0 (0, .aload_n 0, 1) rfl) rfl rfl ?_
  refine mx_iconst (pc := 1) (v := (0 : Int32)) (mx_dd dd_X12_load_0 1 (1, .iconst 0, 1) rfl) (by decide) ?_
  obtain ⟨g1, P⟩ := P
  refine mx_putI (pc := 2) mx_fl_X12_3 g1 rfl (.inl rfl) rfl rfl (mx_dd dd_X12_load_0 2 (2, .putfield 3, 3) rfl) ?_
  have P := P _ rfl
  refine mx_aload_n (pc := 5) 0 (mx_dd dd_X12_load_0 3 (5, .aload_n 0, 1) rfl) rfl rfl ?_
  refine mx_aload_n (pc := 6) 0 (mx_dd dd_X12_load_0 4 (6, .aload_n 0, 1) rfl) rfl rfl ?_
  refine mx_getI (pc := 7) mx_fl_X12_7 g1 rfl (mx_dd dd_X12_load_0 5 (7, .getfield 7, 3) rfl) ?_
  refine mx_putI (pc := 10) mx_fl_X12_24 g1 rfl (.inl rfl) rfl rfl (mx_dd dd_X12_load_0 6 (10, .putfield 24, 3) rfl) ?_
  have P := P _ rfl
  refine mx_aload_n (pc := 13) 0 (mx_dd dd_X12_load_0 7 (13, .aload_n 0, 1) rfl) rfl rfl ?_
  refine mx_iconst (pc := 14) (v := (0 : Int32)) (mx_dd dd_X12_load_0 8 (14, .iconst 0, 1) rfl) (by decide) ?_
  refine mx_putI (pc := 15) mx_fl_X12_7 g1 rfl (.inl rfl) rfl rfl (mx_dd dd_X12_load_0 9 (15, .putfield 7, 3) rfl) ?_
  have P := P _ rfl
  refine mx_aload_n (pc := 18) 0 (mx_dd dd_X12_load_0 10 (18, .aload_n 0, 1) rfl) rfl rfl ?_
  refine mx_iconst (pc := 19) (v := (0 : Int32)) (mx_dd dd_X12_load_0 11 (19, .iconst 0, 1) rfl) (by decide) ?_
  refine mx_putI (pc := 20) mx_fl_X12_27 g1 rfl (.inl rfl) rfl rfl (mx_dd dd_X12_load_0 12 (20, .putfield 27, 3) rfl) ?_
  have P := P _ rfl
  refine mx_aload_n (pc := 23) 0 (mx_dd dd_X12_load_0 13 (23, .aload_n 0, 1) rfl) rfl rfl ?_
  refine mx_iconst (pc := 24) (v := (0 : Int32)) (mx_dd dd_X12_load_0 14 (24, .iconst 0, 1) rfl) (by decide) ?_
  refine mx_putI (pc := 25) mx_fl_X12_134 g1 rfl (.inl rfl) rfl rfl (mx_dd dd_X12_load_0 15 (25, .putfield 134, 3) rfl) ?_
  have P := P _ rfl
  refine mx_aload_n (pc := 28) 0 (mx_dd dd_X12_load_0 16 (28, .aload_n 0, 1) rfl) rfl rfl ?_
  refine mx_iconst (pc := 29) (v := (-1 : Int32)) (mx_dd dd_X12_load_0 17 (29, .iconst (-1), 1) rfl) (by decide) ?_
  refine mx_putI (pc := 30) mx_fl_X12_50 g1 rfl (.inl rfl) rfl rfl (mx_dd dd_X12_load_0 18 (30, .putfield 50, 3) rfl) ?_
  have P := P _ rfl
  refine mx_aload_n (pc := 33) 0 (mx_dd dd_X12_load_0 19 (33, .aload_n 0, 1) rfl) rfl rfl ?_
  refine mx_iconst (pc := 34) (v := (0 : Int32)) (mx_dd dd_X12_load_0 20 (34, .iconst 0, 1) rfl) (by decide) ?_
  refine mx_putI (pc := 35) mx_fl_X12_57 g1 rfl (.inl rfl) rfl rfl (mx_dd dd_X12_load_0 21 (35, .putfield 57, 3) rfl) ?_
  have P := P _ rfl
  refine mx_aload_n (pc := 38) 0 (mx_dd dd_X12_load_0 22 (38, .aload_n 0, 1) rfl) rfl rfl ?_
  obtain ⟨g2, P⟩ := P
  refine mx_cVV (pc := 39) (Y := mY_X12_looks) (As := []) mx_ml_X12_60 mx_y_X12_looks rfl g1 (by decide) rfl (by decide) rfl (mx_dd dd_X12_load_0 23 (39, .invokevirtual 60, 3) rfl) g2 (by decide) P (fun h8 P => ?_)
  refine mx_aload_n (pc := 42) 0 (mx_dd dd_X12_load_0 24 (42, .aload_n 0, 1) rfl) rfl rfl ?_
  refine mx_iconst (pc := 43) (v := (0 : Int32)) (mx_dd dd_X12_load_0 25 (43, .iconst 0, 1) rfl) (by decide) ?_
  obtain ⟨g3, P⟩ := P
  refine mx_cVI (pc := 44) (Y := mY_X12_readScript) (As := [.int _]) mx_ml_X12_221 mx_y_X12_readScript rfl g3 (by decide) rfl (by decide) rfl (mx_dd dd_X12_load_0 26 (44, .invokevirtual 221, 3) rfl) g2 (by decide) P (fun v1 h9 P => ?_)
  refine mx_istore_n (pc := 47) (mx_dd dd_X12_load_0 27 (47, .istore_n 1, 1) rfl) rfl (by decide) (lv' := [(1, _), (0, _)]) rfl ?_
  refine mx_aload_n (pc := 48) 1 (mx_dd dd_X12_load_0 28 (48, .aload_n 0, 1) rfl) rfl rfl ?_
  obtain ⟨g4, P⟩ := P
  refine mx_getI (pc := 49) mx_fl_X12_184 g4 rfl (mx_dd dd_X12_load_0 29 (49, .getfield 184, 3) rfl) ?_
  refine mx_istore_n (pc := 52) (mx_dd dd_X12_load_0 30 (52, .istore_n 2, 1) rfl) rfl (by decide) (lv' := [(2, _), (1, _), (0, _)]) rfl ?_
  refine mx_aload_n (pc := 53) 2 (mx_dd dd_X12_load_0 31 (53, .aload_n 0, 1) rfl) rfl rfl ?_
  refine mx_getI (pc := 54) mx_fl_X12_40 g4 rfl (mx_dd dd_X12_load_0 32 (54, .getfield 40, 3) rfl) ?_
  refine mx_if_eq (pc := 57) 65 (mx_dd dd_X12_load_0 33 (57, .ifCond .eq 8, 3) rfl) rfl (fun c57 => ?_) (fun c57 => ?_)
  · have P := P.1 c57
    refine mx_sel [2, 1, 0] rfl ?_
    exact P
  · have P := P.2 c57
    refine mx_aload_n (pc := 60) 2 (mx_dd dd_X12_load_0 34 (60, .aload_n 0, 1) rfl) rfl rfl ?_
    refine mx_iconst (pc := 61) (v := (1 : Int32)) (mx_dd dd_X12_load_0 35 (61, .iconst 1, 1) rfl) (by decide) ?_
    refine mx_cVV (pc := 62) (Y := mY_X12_fails) (As := [.int _]) mx_ml_X12_84 mx_y_X12_fails rfl g4 (by decide) rfl (by decide) rfl (mx_dd dd_X12_load_0 36 (62, .invokevirtual 84, 3) rfl) g2 (by decide) P (fun h10 P => ?_)
    refine mx_sel [2, 1, 0] rfl ?_
    exact P
theorem b_X12_load_65 {d : Nat} {h : mxH} {Q : mxRes → mxH → Prop} (x0 : Nat) (x1 : Int32) (x2 : Int32)
    (P : hpK h x0 = 12 ∧ ∀ h1 : mxH, h1 = hsI h x0 11 (hpI h x0 9) → ∀ h2 : mxH, h2 = hsI h1 x0 12 (hpI h1 x0 10) → 1 ≤ d ∧ mx_SM mY_X12_hasFailed (d - 1) [.ref x0] h2 (mx_KI (fun v1 h3 => hpK h3 x0 = 12 ∧ mx_SM mY_X12_throwsIf (d - 1) [.ref x0, .int v1, .int (1 : Int32)] h3 (mx_KI (fun v2 h4 => ((v2 = 0 → mx_SX mY_X12_load d 97 [(0, .ref x0), (1, .int x1), (2, .int x2), (3, .int (0 : Int32))] [] h4 Q) ∧ (¬ v2 = 0 → Q (.inl (some (.int (0 : Int32)))) h4))) (mx_XX mY_X12_load Q))) (mx_XX mY_X12_load Q))) : mx_SX mY_X12_load d 65 [(0, .ref x0), (1, .int x1), (2, .int x2)] [] h Q := by
  refine mx_aload_n (pc := 65) 0 (mx_dd dd_X12_load_0 37 (65, .aload_n 0, 1) rfl) rfl rfl ?_
  refine mx_aload_n (pc := 66) 0 (mx_dd dd_X12_load_0 38 (66, .aload_n 0, 1) rfl) rfl rfl ?_
  obtain ⟨g1, P⟩ := P
  refine mx_getI (pc := 67) mx_fl_X12_50 g1 rfl (mx_dd dd_X12_load_0 39 (67, .getfield 50, 3) rfl) ?_
  refine mx_putI (pc := 70) mx_fl_X12_18 g1 rfl (.inl rfl) rfl rfl (mx_dd dd_X12_load_1 0 (70, .putfield 18, 3) rfl) ?_
  have P := P _ rfl
  refine mx_aload_n (pc := 73) 0 (mx_dd dd_X12_load_1 1 (73, .aload_n 0, 1) rfl) rfl rfl ?_
  refine mx_aload_n (pc := 74) 0 (mx_dd dd_X12_load_1 2 (74, .aload_n 0, 1) rfl) rfl rfl ?_
  refine mx_getI (pc := 75) mx_fl_X12_57 g1 rfl (mx_dd dd_X12_load_1 3 (75, .getfield 57, 3) rfl) ?_
  refine mx_putI (pc := 78) mx_fl_X12_21 g1 rfl (.inl rfl) rfl rfl (mx_dd dd_X12_load_1 4 (78, .putfield 21, 3) rfl) ?_
  have P := P _ rfl
  refine mx_aload_n (pc := 81) 0 (mx_dd dd_X12_load_1 5 (81, .aload_n 0, 1) rfl) rfl rfl ?_
  refine mx_aload_n (pc := 82) 0 (mx_dd dd_X12_load_1 6 (82, .aload_n 0, 1) rfl) rfl rfl ?_
  obtain ⟨g2, P⟩ := P
  refine mx_cVI (pc := 83) (Y := mY_X12_hasFailed) (As := []) mx_ml_X12_53 mx_y_X12_hasFailed rfl g1 (by decide) rfl (by simp [Value.category]) rfl (mx_dd dd_X12_load_1 7 (83, .invokevirtual 53, 3) rfl) g2 (by decide) P (fun v1 h3 P => ?_)
  refine mx_iconst (pc := 86) (v := (1 : Int32)) (mx_dd dd_X12_load_1 8 (86, .iconst 1, 1) rfl) (by decide) ?_
  obtain ⟨g3, P⟩ := P
  refine mx_cVI (pc := 87) (Y := mY_X12_throwsIf) (As := [.int _, .int _]) mx_ml_X12_274 mx_y_X12_throwsIf rfl g3 (by decide) rfl (by decide) rfl (mx_dd dd_X12_load_1 9 (87, .invokevirtual 274, 3) rfl) g2 (by decide) P (fun v2 h4 P => ?_)
  refine mx_if_eq (pc := 90) 95 (mx_dd dd_X12_load_1 10 (90, .ifCond .eq 5, 3) rfl) rfl (fun c90 => ?_) (fun c90 => ?_)
  · have P := P.1 c90
    refine mx_iconst (pc := 95) (v := (0 : Int32)) (mx_dd dd_X12_load_1 13 (95, .iconst 0, 1) rfl) (by decide) ?_
    refine mx_istore_n (pc := 96) (mx_dd dd_X12_load_1 14 (96, .istore_n 3, 1) rfl) rfl (by decide) (lv' := [(3, _), (0, _), (1, _), (2, _)]) rfl ?_
    refine mx_sel [1, 2, 3, 0] rfl ?_
    exact P
  · have P := P.2 c90
    refine mx_iconst (pc := 93) (v := (0 : Int32)) (mx_dd dd_X12_load_1 11 (93, .iconst 0, 1) rfl) (by decide) ?_
    exact mx_ireturn (pc := 94) (mx_dd dd_X12_load_1 12 (94, .ireturn, 1) rfl) rfl rfl P
theorem b_X12_load_97 {d : Nat} {h : mxH} {Q : mxRes → mxH → Prop} (x0 : Nat) (x1 : Int32) (x2 : Int32) (x3 : Int32)
    (P : hpK h x0 = 12 ∧ (((hpI h x0 49) ≤ x3 → ∀ h1 : mxH, h1 = hsI h x0 50 x1 → 1 ≤ d ∧ mx_SM mY_X12_beginsAnew (d - 1) [.ref x0] h1 (mx_KV (fun h2 => Q (.inl (some (.int x2))) h2) (mx_XX mY_X12_load Q))) ∧ (¬ (hpI h x0 49) ≤ x3 → ∃ b1 : Nat, hpR h x0 33 = some b1 ∧ ∃ b2 : Nat, hpR h x0 41 = some b2 ∧ hpK h b2 = 14 ∧ vp_in x3 (hpZ h b2) ∧ hpK h b1 = 14 ∧ vp_in x3 (hpZ h b1) ∧ ∀ h3 : mxH, h3 = hsI h b1 x3.toNatClampNeg (hpI h b2 x3.toNatClampNeg) → ∃ b3 : Nat, hpR h3 x0 34 = some b3 ∧ ∃ b4 : Nat, hpR h3 x0 42 = some b4 ∧ hpK h3 b4 = 14 ∧ vp_in x3 (hpZ h3 b4) ∧ hpK h3 b3 = 14 ∧ vp_in x3 (hpZ h3 b3) ∧ ∀ h4 : mxH, h4 = hsI h3 b3 x3.toNatClampNeg (hpI h3 b4 x3.toNatClampNeg) → ∃ b5 : Nat, hpR h4 x0 35 = some b5 ∧ ∃ b6 : Nat, hpR h4 x0 43 = some b6 ∧ hpK h4 b6 = 14 ∧ vp_in x3 (hpZ h4 b6) ∧ hpK h4 b5 = 14 ∧ vp_in x3 (hpZ h4 b5) ∧ ∀ h5 : mxH, h5 = hsI h4 b5 x3.toNatClampNeg (hpI h4 b6 x3.toNatClampNeg) → ∃ b7 : Nat, hpR h5 x0 36 = some b7 ∧ ∃ b8 : Nat, hpR h5 x0 44 = some b8 ∧ hpK h5 b8 = 14 ∧ vp_in x3 (hpZ h5 b8) ∧ hpK h5 b7 = 14 ∧ vp_in x3 (hpZ h5 b7) ∧ ∀ h6 : mxH, h6 = hsI h5 b7 x3.toNatClampNeg (hpI h5 b8 x3.toNatClampNeg) → ∃ b9 : Nat, hpR h6 x0 37 = some b9 ∧ ∃ b10 : Nat, hpR h6 x0 45 = some b10 ∧ hpK h6 b10 = 14 ∧ vp_in x3 (hpZ h6 b10) ∧ hpK h6 b9 = 14 ∧ vp_in x3 (hpZ h6 b9) ∧ ∀ h7 : mxH, h7 = hsI h6 b9 x3.toNatClampNeg (hpI h6 b10 x3.toNatClampNeg) → ∃ b11 : Nat, hpR h7 x0 38 = some b11 ∧ ∃ b12 : Nat, hpR h7 x0 46 = some b12 ∧ hpK h7 b12 = 14 ∧ vp_in x3 (hpZ h7 b12) ∧ hpK h7 b11 = 14 ∧ vp_in x3 (hpZ h7 b11) ∧ ∀ h8 : mxH, h8 = hsI h7 b11 x3.toNatClampNeg (hpI h7 b12 x3.toNatClampNeg) → ∃ b13 : Nat, hpR h8 x0 39 = some b13 ∧ ∃ b14 : Nat, hpR h8 x0 47 = some b14 ∧ hpK h8 b14 = 14 ∧ vp_in x3 (hpZ h8 b14) ∧ hpK h8 b13 = 14 ∧ vp_in x3 (hpZ h8 b13) ∧ ∀ h9 : mxH, h9 = hsI h8 b13 x3.toNatClampNeg (hpI h8 b14 x3.toNatClampNeg) → ∃ b15 : Nat, hpR h9 x0 40 = some b15 ∧ ∃ b16 : Nat, hpR h9 x0 48 = some b16 ∧ hpK h9 b16 = 15 ∧ vp_in x3 (hpZ h9 b16) ∧ hpK h9 b15 = 15 ∧ vp_in x3 (hpZ h9 b15) ∧ ∀ h10 : mxH, h10 = hsL h9 b15 x3.toNatClampNeg (hpL h9 b16 x3.toNatClampNeg) → mx_SX mY_X12_load d 97 [(0, .ref x0), (1, .int x1), (2, .int x2), (3, .int (x3 + (1 : Int32)))] [] h10 Q))) : mx_SX mY_X12_load d 97 [(0, .ref x0), (1, .int x1), (2, .int x2), (3, .int x3)] [] h Q := by
  refine mx_iload_n (pc := 97) 3 (mx_dd dd_X12_load_1 15 (97, .iload_n 3, 1) rfl) rfl rfl ?_
  refine mx_aload_n (pc := 98) 0 (mx_dd dd_X12_load_1 16 (98, .aload_n 0, 1) rfl) rfl rfl ?_
  obtain ⟨g1, P⟩ := P
  refine mx_getI (pc := 99) mx_fl_X12_134 g1 rfl (mx_dd dd_X12_load_1 17 (99, .getfield 134, 3) rfl) ?_
  refine mx_icmp_ge (pc := 102) 207 (mx_dd dd_X12_load_1 18 (102, .if_icmp .ge 105, 3) rfl) rfl (fun c102 => ?_) (fun c102 => ?_)
  · have P := P.1 c102
    refine mx_aload_n (pc := 207) 0 (mx_dd dd_X12_load_3 5 (207, .aload_n 0, 1) rfl) rfl rfl ?_
    refine mx_iload_n (pc := 208) 1 (mx_dd dd_X12_load_3 6 (208, .iload_n 1, 1) rfl) rfl rfl ?_
    refine mx_putI (pc := 209) mx_fl_X12_302 g1 rfl (.inl rfl) rfl rfl (mx_dd dd_X12_load_3 7 (209, .putfield 302, 3) rfl) ?_
    have P := P _ rfl
    refine mx_aload_n (pc := 212) 0 (mx_dd dd_X12_load_3 8 (212, .aload_n 0, 1) rfl) rfl rfl ?_
    obtain ⟨g2, P⟩ := P
    refine mx_cVV (pc := 213) (Y := mY_X12_beginsAnew) (As := []) mx_ml_X12_305 mx_y_X12_beginsAnew rfl g1 (by decide) rfl (by decide) rfl (mx_dd dd_X12_load_3 9 (213, .invokevirtual 305, 3) rfl) g2 (by decide) P (fun h2 P => ?_)
    refine mx_iload_n (pc := 216) 2 (mx_dd dd_X12_load_3 10 (216, .iload_n 2, 1) rfl) rfl rfl ?_
    exact mx_ireturn (pc := 217) (mx_dd dd_X12_load_3 11 (217, .ireturn, 1) rfl) rfl rfl P
  · have P := P.2 c102
    refine mx_aload_n (pc := 105) 0 (mx_dd dd_X12_load_1 19 (105, .aload_n 0, 1) rfl) rfl rfl ?_
    obtain ⟨b1, g3, P⟩ := P
    refine mx_getR (pc := 106) mx_fl_X12_278 g1 rfl g3 (mx_dd dd_X12_load_1 20 (106, .getfield 278, 3) rfl) ?_
    refine mx_iload_n (pc := 109) 3 (mx_dd dd_X12_load_1 21 (109, .iload_n 3, 1) rfl) rfl rfl ?_
    refine mx_aload_n (pc := 110) 0 (mx_dd dd_X12_load_1 22 (110, .aload_n 0, 1) rfl) rfl rfl ?_
    obtain ⟨b2, g4, P⟩ := P
    refine mx_getR (pc := 111) mx_fl_X12_137 g1 rfl g4 (mx_dd dd_X12_load_1 23 (111, .getfield 137, 3) rfl) ?_
    refine mx_iload_n (pc := 114) 3 (mx_dd dd_X12_load_1 24 (114, .iload_n 3, 1) rfl) rfl rfl ?_
    obtain ⟨g5, P⟩ := P
    obtain ⟨g6, P⟩ := P
    refine mx_iald (pc := 115) g5 g6 (mx_dd dd_X12_load_1 25 (115, .iaload, 1) rfl) ?_
    obtain ⟨g7, P⟩ := P
    obtain ⟨g8, P⟩ := P
    refine mx_iast (pc := 116) g7 g8 (mx_dd dd_X12_load_1 26 (116, .iastore, 1) rfl) ?_
    have P := P _ rfl
    refine mx_aload_n (pc := 117) 0 (mx_dd dd_X12_load_1 27 (117, .aload_n 0, 1) rfl) rfl rfl ?_
    obtain ⟨b3, g9, P⟩ := P
    refine mx_getR (pc := 118) mx_fl_X12_281 g1 rfl g9 (mx_dd dd_X12_load_1 28 (118, .getfield 281, 3) rfl) ?_
    refine mx_iload_n (pc := 121) 3 (mx_dd dd_X12_load_1 29 (121, .iload_n 3, 1) rfl) rfl rfl ?_
    refine mx_aload_n (pc := 122) 0 (mx_dd dd_X12_load_1 30 (122, .aload_n 0, 1) rfl) rfl rfl ?_
    obtain ⟨b4, g10, P⟩ := P
    refine mx_getR (pc := 123) mx_fl_X12_140 g1 rfl g10 (mx_dd dd_X12_load_1 31 (123, .getfield 140, 3) rfl) ?_
    refine mx_iload_n (pc := 126) 3 (mx_dd dd_X12_load_1 32 (126, .iload_n 3, 1) rfl) rfl rfl ?_
    obtain ⟨g11, P⟩ := P
    obtain ⟨g12, P⟩ := P
    refine mx_iald (pc := 127) g11 g12 (mx_dd dd_X12_load_1 33 (127, .iaload, 1) rfl) ?_
    obtain ⟨g13, P⟩ := P
    obtain ⟨g14, P⟩ := P
    refine mx_iast (pc := 128) g13 g14 (mx_dd dd_X12_load_1 34 (128, .iastore, 1) rfl) ?_
    have P := P _ rfl
    refine mx_aload_n (pc := 129) 0 (mx_dd dd_X12_load_1 35 (129, .aload_n 0, 1) rfl) rfl rfl ?_
    obtain ⟨b5, g15, P⟩ := P
    refine mx_getR (pc := 130) mx_fl_X12_284 g1 rfl g15 (mx_dd dd_X12_load_1 36 (130, .getfield 284, 3) rfl) ?_
    refine mx_iload_n (pc := 133) 3 (mx_dd dd_X12_load_1 37 (133, .iload_n 3, 1) rfl) rfl rfl ?_
    refine mx_aload_n (pc := 134) 0 (mx_dd dd_X12_load_1 38 (134, .aload_n 0, 1) rfl) rfl rfl ?_
    obtain ⟨b6, g16, P⟩ := P
    refine mx_getR (pc := 135) mx_fl_X12_143 g1 rfl g16 (mx_dd dd_X12_load_1 39 (135, .getfield 143, 3) rfl) ?_
    refine mx_iload_n (pc := 138) 3 (mx_dd dd_X12_load_2 0 (138, .iload_n 3, 1) rfl) rfl rfl ?_
    obtain ⟨g17, P⟩ := P
    obtain ⟨g18, P⟩ := P
    refine mx_iald (pc := 139) g17 g18 (mx_dd dd_X12_load_2 1 (139, .iaload, 1) rfl) ?_
    obtain ⟨g19, P⟩ := P
    obtain ⟨g20, P⟩ := P
    refine mx_iast (pc := 140) g19 g20 (mx_dd dd_X12_load_2 2 (140, .iastore, 1) rfl) ?_
    have P := P _ rfl
    refine mx_aload_n (pc := 141) 0 (mx_dd dd_X12_load_2 3 (141, .aload_n 0, 1) rfl) rfl rfl ?_
    obtain ⟨b7, g21, P⟩ := P
    refine mx_getR (pc := 142) mx_fl_X12_287 g1 rfl g21 (mx_dd dd_X12_load_2 4 (142, .getfield 287, 3) rfl) ?_
    refine mx_iload_n (pc := 145) 3 (mx_dd dd_X12_load_2 5 (145, .iload_n 3, 1) rfl) rfl rfl ?_
    refine mx_aload_n (pc := 146) 0 (mx_dd dd_X12_load_2 6 (146, .aload_n 0, 1) rfl) rfl rfl ?_
    obtain ⟨b8, g22, P⟩ := P
    refine mx_getR (pc := 147) mx_fl_X12_146 g1 rfl g22 (mx_dd dd_X12_load_2 7 (147, .getfield 146, 3) rfl) ?_
    refine mx_iload_n (pc := 150) 3 (mx_dd dd_X12_load_2 8 (150, .iload_n 3, 1) rfl) rfl rfl ?_
    obtain ⟨g23, P⟩ := P
    obtain ⟨g24, P⟩ := P
    refine mx_iald (pc := 151) g23 g24 (mx_dd dd_X12_load_2 9 (151, .iaload, 1) rfl) ?_
    obtain ⟨g25, P⟩ := P
    obtain ⟨g26, P⟩ := P
    refine mx_iast (pc := 152) g25 g26 (mx_dd dd_X12_load_2 10 (152, .iastore, 1) rfl) ?_
    have P := P _ rfl
    refine mx_aload_n (pc := 153) 0 (mx_dd dd_X12_load_2 11 (153, .aload_n 0, 1) rfl) rfl rfl ?_
    obtain ⟨b9, g27, P⟩ := P
    refine mx_getR (pc := 154) mx_fl_X12_290 g1 rfl g27 (mx_dd dd_X12_load_2 12 (154, .getfield 290, 3) rfl) ?_
    refine mx_iload_n (pc := 157) 3 (mx_dd dd_X12_load_2 13 (157, .iload_n 3, 1) rfl) rfl rfl ?_
    refine mx_aload_n (pc := 158) 0 (mx_dd dd_X12_load_2 14 (158, .aload_n 0, 1) rfl) rfl rfl ?_
    obtain ⟨b10, g28, P⟩ := P
    refine mx_getR (pc := 159) mx_fl_X12_149 g1 rfl g28 (mx_dd dd_X12_load_2 15 (159, .getfield 149, 3) rfl) ?_
    refine mx_iload_n (pc := 162) 3 (mx_dd dd_X12_load_2 16 (162, .iload_n 3, 1) rfl) rfl rfl ?_
    obtain ⟨g29, P⟩ := P
    obtain ⟨g30, P⟩ := P
    refine mx_iald (pc := 163) g29 g30 (mx_dd dd_X12_load_2 17 (163, .iaload, 1) rfl) ?_
    obtain ⟨g31, P⟩ := P
    obtain ⟨g32, P⟩ := P
    refine mx_iast (pc := 164) g31 g32 (mx_dd dd_X12_load_2 18 (164, .iastore, 1) rfl) ?_
    have P := P _ rfl
    refine mx_aload_n (pc := 165) 0 (mx_dd dd_X12_load_2 19 (165, .aload_n 0, 1) rfl) rfl rfl ?_
    obtain ⟨b11, g33, P⟩ := P
    refine mx_getR (pc := 166) mx_fl_X12_293 g1 rfl g33 (mx_dd dd_X12_load_2 20 (166, .getfield 293, 3) rfl) ?_
    refine mx_iload_n (pc := 169) 3 (mx_dd dd_X12_load_2 21 (169, .iload_n 3, 1) rfl) rfl rfl ?_
    refine mx_aload_n (pc := 170) 0 (mx_dd dd_X12_load_2 22 (170, .aload_n 0, 1) rfl) rfl rfl ?_
    obtain ⟨b12, g34, P⟩ := P
    refine mx_getR (pc := 171) mx_fl_X12_152 g1 rfl g34 (mx_dd dd_X12_load_2 23 (171, .getfield 152, 3) rfl) ?_
    refine mx_iload_n (pc := 174) 3 (mx_dd dd_X12_load_2 24 (174, .iload_n 3, 1) rfl) rfl rfl ?_
    obtain ⟨g35, P⟩ := P
    obtain ⟨g36, P⟩ := P
    refine mx_iald (pc := 175) g35 g36 (mx_dd dd_X12_load_2 25 (175, .iaload, 1) rfl) ?_
    obtain ⟨g37, P⟩ := P
    obtain ⟨g38, P⟩ := P
    refine mx_iast (pc := 176) g37 g38 (mx_dd dd_X12_load_2 26 (176, .iastore, 1) rfl) ?_
    have P := P _ rfl
    refine mx_aload_n (pc := 177) 0 (mx_dd dd_X12_load_2 27 (177, .aload_n 0, 1) rfl) rfl rfl ?_
    obtain ⟨b13, g39, P⟩ := P
    refine mx_getR (pc := 178) mx_fl_X12_296 g1 rfl g39 (mx_dd dd_X12_load_2 28 (178, .getfield 296, 3) rfl) ?_
    refine mx_iload_n (pc := 181) 3 (mx_dd dd_X12_load_2 29 (181, .iload_n 3, 1) rfl) rfl rfl ?_
    refine mx_aload_n (pc := 182) 0 (mx_dd dd_X12_load_2 30 (182, .aload_n 0, 1) rfl) rfl rfl ?_
    obtain ⟨b14, g40, P⟩ := P
    refine mx_getR (pc := 183) mx_fl_X12_155 g1 rfl g40 (mx_dd dd_X12_load_2 31 (183, .getfield 155, 3) rfl) ?_
    refine mx_iload_n (pc := 186) 3 (mx_dd dd_X12_load_2 32 (186, .iload_n 3, 1) rfl) rfl rfl ?_
    obtain ⟨g41, P⟩ := P
    obtain ⟨g42, P⟩ := P
    refine mx_iald (pc := 187) g41 g42 (mx_dd dd_X12_load_2 33 (187, .iaload, 1) rfl) ?_
    obtain ⟨g43, P⟩ := P
    obtain ⟨g44, P⟩ := P
    refine mx_iast (pc := 188) g43 g44 (mx_dd dd_X12_load_2 34 (188, .iastore, 1) rfl) ?_
    have P := P _ rfl
    refine mx_aload_n (pc := 189) 0 (mx_dd dd_X12_load_2 35 (189, .aload_n 0, 1) rfl) rfl rfl ?_
    obtain ⟨b15, g45, P⟩ := P
    refine mx_getR (pc := 190) mx_fl_X12_299 g1 rfl g45 (mx_dd dd_X12_load_2 36 (190, .getfield 299, 3) rfl) ?_
    refine mx_iload_n (pc := 193) 3 (mx_dd dd_X12_load_2 37 (193, .iload_n 3, 1) rfl) rfl rfl ?_
    refine mx_aload_n (pc := 194) 0 (mx_dd dd_X12_load_2 38 (194, .aload_n 0, 1) rfl) rfl rfl ?_
    obtain ⟨b16, g46, P⟩ := P
    refine mx_getR (pc := 195) mx_fl_X12_158 g1 rfl g46 (mx_dd dd_X12_load_2 39 (195, .getfield 158, 3) rfl) ?_
    refine mx_iload_n (pc := 198) 3 (mx_dd dd_X12_load_3 0 (198, .iload_n 3, 1) rfl) rfl rfl ?_
    obtain ⟨g47, P⟩ := P
    obtain ⟨g48, P⟩ := P
    refine mx_lald (pc := 199) g47 g48 (mx_dd dd_X12_load_3 1 (199, .laload, 1) rfl) ?_
    obtain ⟨g49, P⟩ := P
    obtain ⟨g50, P⟩ := P
    refine mx_last (pc := 200) g49 g50 (mx_dd dd_X12_load_3 2 (200, .lastore, 1) rfl) ?_
    have P := P _ rfl
    refine mx_iinc (pc := 201) 3 (mx_dd dd_X12_load_3 3 (201, .iinc 3 1, 3) rfl) rfl (mx_kadd (by decide : Int32.ofInt 1 = (1 : Int32))) (by decide) (lv' := [(3, _), (0, _), (1, _), (2, _)]) rfl ?_
    refine mx_goto (pc := 204) 97 (mx_dd dd_X12_load_3 4 (204, .goto (-107), 3) rfl) rfl ?_
    refine mx_sel [1, 2, 3, 0] rfl ?_
    exact P
theorem b_X12_marks {d : Nat} {h : mxH} {Q : mxRes → mxH → Prop} (x0 : Nat) (x1 : Int32)
    (P : hpK h x0 = 12 ∧ ∃ b1 : Nat, hpR h x0 54 = some b1 ∧ hpK h b1 = 16 ∧ vp_in x1 (hpZ h b1) ∧ ∀ h1 : mxH, h1 = hsI h b1 x1.toNatClampNeg ((1 : Int32) &&& 1) → Q (.inl none) h1) : mx_SM mY_X12_marks d [.ref x0, .int x1] h Q := by
  refine mx_SM_of (by decide) (Nat.le_of_ble_eq_true rfl) ?_
  show mx_SX mY_X12_marks d 0 [(0, .ref x0), (1, .int x1)] [] h Q
  refine mx_aload_n (pc := 0) 0 (mx_dd dd_X12_marks 0 (0, .aload_n 0, 1) rfl) rfl rfl ?_
  obtain ⟨g1, P⟩ := P
  obtain ⟨b1, g2, P⟩ := P
  refine mx_getR (pc := 1) mx_fl_X12_308 g1 rfl g2 (mx_dd dd_X12_marks 1 (1, .getfield 308, 3) rfl) ?_
  refine mx_iload_n (pc := 4) 1 (mx_dd dd_X12_marks 2 (4, .iload_n 1, 1) rfl) rfl rfl ?_
  refine mx_iconst (pc := 5) (v := (1 : Int32)) (mx_dd dd_X12_marks 3 (5, .iconst 1, 1) rfl) (by decide) ?_
  obtain ⟨g3, P⟩ := P
  obtain ⟨g4, P⟩ := P
  refine mx_zast (pc := 6) g3 g4 (mx_dd dd_X12_marks 4 (6, .bastore, 1) rfl) ?_
  have P := P _ rfl
  exact mx_return (pc := 7) (mx_dd dd_X12_marks 5 (7, .return_, 1) rfl) rfl P
theorem b_X12_sweepsLines {d : Nat} {h : mxH} {Q : mxRes → mxH → Prop} (x0 : Nat)
    (P : mx_SX mY_X12_sweepsLines d 2 [(0, .ref x0), (1, .int (0 : Int32))] [] h Q) : mx_SM mY_X12_sweepsLines d [.ref x0] h Q := by
  refine mx_SM_of (by decide) (Nat.le_of_ble_eq_true rfl) ?_
  show mx_SX mY_X12_sweepsLines d 0 [(0, .ref x0)] [] h Q
  refine mx_iconst (pc := 0) (v := (0 : Int32)) (mx_dd dd_X12_sweepsLines_0 0 (0, .iconst 0, 1) rfl) (by decide) ?_
  refine mx_istore_n (pc := 1) (mx_dd dd_X12_sweepsLines_0 1 (1, .istore_n 1, 1) rfl) rfl (by decide) (lv' := [(1, _), (0, _)]) rfl ?_
  refine mx_sel [1, 0] rfl ?_
  exact P
theorem b_X12_sweepsLines_2 {d : Nat} {h : mxH} {Q : mxRes → mxH → Prop} (x0 : Nat) (x1 : Int32)
    (P : (((4400 : Int32) ≤ x1 → hpK h x0 = 12 ∧ ∃ b1 : Nat, hpR h x0 56 = some b1 ∧ 1 ≤ d ∧ mx_SM mY_X12_marksWorld (d - 1) [.ref x0, .ref b1, .int (0 : Int32)] h (mx_KV (fun h1 => mx_SX mY_X12_sweepsLines d 41 [(0, .ref x0), (1, .int (0 : Int32))] [] h1 Q) (mx_XX mY_X12_sweepsLines Q))) ∧ (¬ (4400 : Int32) ≤ x1 → hpK h x0 = 12 ∧ ∃ b2 : Nat, hpR h x0 54 = some b2 ∧ ((¬ x1 = 0 → hpK h b2 = 16 ∧ vp_in x1 (hpZ h b2) ∧ ∀ h2 : mxH, h2 = hsI h b2 x1.toNatClampNeg ((0 : Int32) &&& 1) → mx_SX mY_X12_sweepsLines d 2 [(0, .ref x0), (1, .int (x1 + (1 : Int32)))] [] h2 Q) ∧ (x1 = 0 → hpK h b2 = 16 ∧ vp_in x1 (hpZ h b2) ∧ ∀ h3 : mxH, h3 = hsI h b2 x1.toNatClampNeg ((1 : Int32) &&& 1) → mx_SX mY_X12_sweepsLines d 2 [(0, .ref x0), (1, .int (x1 + (1 : Int32)))] [] h3 Q))))) : mx_SX mY_X12_sweepsLines d 2 [(0, .ref x0), (1, .int x1)] [] h Q := by
  refine mx_iload_n (pc := 2) 1 (mx_dd dd_X12_sweepsLines_0 2 (2, .iload_n 1, 1) rfl) rfl rfl ?_
  refine mx_sipush (pc := 3) (v := (4400 : Int32)) (mx_dd dd_X12_sweepsLines_0 3 (3, .sipush 4400, 3) rfl) (by decide) ?_
  refine mx_icmp_ge (pc := 6) 30 (mx_dd dd_X12_sweepsLines_0 4 (6, .if_icmp .ge 24, 3) rfl) rfl (fun c6 => ?_) (fun c6 => ?_)
  · have P := P.1 c6
    refine mx_aload_n (pc := 30) 0 (mx_dd dd_X12_sweepsLines_0 16 (30, .aload_n 0, 1) rfl) rfl rfl ?_
    refine mx_aload_n (pc := 31) 0 (mx_dd dd_X12_sweepsLines_0 17 (31, .aload_n 0, 1) rfl) rfl rfl ?_
    obtain ⟨g1, P⟩ := P
    obtain ⟨b1, g2, P⟩ := P
    refine mx_getR (pc := 32) mx_fl_X12_312 g1 rfl g2 (mx_dd dd_X12_sweepsLines_0 18 (32, .getfield 312, 3) rfl) ?_
    refine mx_iconst (pc := 35) (v := (0 : Int32)) (mx_dd dd_X12_sweepsLines_0 19 (35, .iconst 0, 1) rfl) (by decide) ?_
    obtain ⟨g3, P⟩ := P
    refine mx_cVV (pc := 36) (Y := mY_X12_marksWorld) (As := [.ref _, .int _]) mx_ml_X12_315 mx_y_X12_marksWorld rfl g1 (by decide) rfl (by decide) rfl (mx_dd dd_X12_sweepsLines_0 20 (36, .invokevirtual 315, 3) rfl) g3 (by decide) P (fun h1 P => ?_)
    refine mx_iconst (pc := 39) (v := (0 : Int32)) (mx_dd dd_X12_sweepsLines_0 21 (39, .iconst 0, 1) rfl) (by decide) ?_
    refine mx_istore_n (pc := 40) (mx_dd dd_X12_sweepsLines_0 22 (40, .istore_n 1, 1) rfl) rfl (by decide) (lv' := [(1, _), (0, _)]) rfl ?_
    refine mx_sel [1, 0] rfl ?_
    exact P
  · have P := P.2 c6
    refine mx_aload_n (pc := 9) 0 (mx_dd dd_X12_sweepsLines_0 5 (9, .aload_n 0, 1) rfl) rfl rfl ?_
    obtain ⟨g4, P⟩ := P
    obtain ⟨b2, g5, P⟩ := P
    refine mx_getR (pc := 10) mx_fl_X12_308 g4 rfl g5 (mx_dd dd_X12_sweepsLines_0 6 (10, .getfield 308, 3) rfl) ?_
    refine mx_iload_n (pc := 13) 1 (mx_dd dd_X12_sweepsLines_0 7 (13, .iload_n 1, 1) rfl) rfl rfl ?_
    refine mx_iload_n (pc := 14) 1 (mx_dd dd_X12_sweepsLines_0 8 (14, .iload_n 1, 1) rfl) rfl rfl ?_
    refine mx_if_ne (pc := 15) 22 (mx_dd dd_X12_sweepsLines_0 9 (15, .ifCond .ne 7, 3) rfl) rfl (fun c15 => ?_) (fun c15 => ?_)
    · have P := P.1 c15
      refine mx_iconst (pc := 22) (v := (0 : Int32)) (mx_dd dd_X12_sweepsLines_0 12 (22, .iconst 0, 1) rfl) (by decide) ?_
      obtain ⟨g6, P⟩ := P
      obtain ⟨g7, P⟩ := P
      refine mx_zast (pc := 23) g6 g7 (mx_dd dd_X12_sweepsLines_0 13 (23, .bastore, 1) rfl) ?_
      have P := P _ rfl
      refine mx_iinc (pc := 24) 1 (mx_dd dd_X12_sweepsLines_0 14 (24, .iinc 1 1, 3) rfl) rfl (mx_kadd (by decide : Int32.ofInt 1 = (1 : Int32))) (by decide) (lv' := [(1, _), (0, _)]) rfl ?_
      refine mx_goto (pc := 27) 2 (mx_dd dd_X12_sweepsLines_0 15 (27, .goto (-25), 3) rfl) rfl ?_
      refine mx_sel [1, 0] rfl ?_
      exact P
    · have P := P.2 c15
      refine mx_iconst (pc := 18) (v := (1 : Int32)) (mx_dd dd_X12_sweepsLines_0 10 (18, .iconst 1, 1) rfl) (by decide) ?_
      refine mx_goto (pc := 19) 23 (mx_dd dd_X12_sweepsLines_0 11 (19, .goto 4, 3) rfl) rfl ?_
      obtain ⟨g8, P⟩ := P
      obtain ⟨g9, P⟩ := P
      refine mx_zast (pc := 23) g8 g9 (mx_dd dd_X12_sweepsLines_0 13 (23, .bastore, 1) rfl) ?_
      have P := P _ rfl
      refine mx_iinc (pc := 24) 1 (mx_dd dd_X12_sweepsLines_0 14 (24, .iinc 1 1, 3) rfl) rfl (mx_kadd (by decide : Int32.ofInt 1 = (1 : Int32))) (by decide) (lv' := [(1, _), (0, _)]) rfl ?_
      refine mx_goto (pc := 27) 2 (mx_dd dd_X12_sweepsLines_0 15 (27, .goto (-25), 3) rfl) rfl ?_
      refine mx_sel [1, 0] rfl ?_
      exact P
theorem b_X12_sweepsLines_41 {d : Nat} {h : mxH} {Q : mxRes → mxH → Prop} (x0 : Nat) (x1 : Int32)
    (P : (((1000 : Int32) ≤ x1 → mx_SX mY_X12_sweepsLines d 84 [(0, .ref x0), (1, .int (0 : Int32))] [] h Q) ∧ (¬ (1000 : Int32) ≤ x1 → hpK h x0 = 12 ∧ ∃ b1 : Nat, hpR h x0 71 = some b1 ∧ hpK h b1 = 14 ∧ vp_in (((83 : Int32) * x1) + (82 : Int32)) (hpZ h b1) ∧ ((¬ (hpI h b1 (((83 : Int32) * x1) + (82 : Int32)).toNatClampNeg) = (1 : Int32) → mx_SX mY_X12_sweepsLines d 76 [(0, .ref x0), (1, .int x1)] [] h Q) ∧ ((hpI h b1 (((83 : Int32) * x1) + (82 : Int32)).toNatClampNeg) = (1 : Int32) → 1 ≤ d ∧ mx_SM mY_X12_marksShell (d - 1) [.ref x0, .ref b1, .int ((83 : Int32) * x1)] h (mx_KV (fun h1 => mx_SX mY_X12_sweepsLines d 76 [(0, .ref x0), (1, .int x1)] [] h1 Q) (mx_XX mY_X12_sweepsLines Q))))))) : mx_SX mY_X12_sweepsLines d 41 [(0, .ref x0), (1, .int x1)] [] h Q := by
  refine mx_iload_n (pc := 41) 1 (mx_dd dd_X12_sweepsLines_0 23 (41, .iload_n 1, 1) rfl) rfl rfl ?_
  refine mx_sipush (pc := 42) (v := (1000 : Int32)) (mx_dd dd_X12_sweepsLines_0 24 (42, .sipush 1000, 3) rfl) (by decide) ?_
  refine mx_icmp_ge (pc := 45) 82 (mx_dd dd_X12_sweepsLines_0 25 (45, .if_icmp .ge 37, 3) rfl) rfl (fun c45 => ?_) (fun c45 => ?_)
  · have P := P.1 c45
    refine mx_iconst (pc := 82) (v := (0 : Int32)) (mx_dd dd_X12_sweepsLines_1 5 (82, .iconst 0, 1) rfl) (by decide) ?_
    refine mx_istore_n (pc := 83) (mx_dd dd_X12_sweepsLines_1 6 (83, .istore_n 1, 1) rfl) rfl (by decide) (lv' := [(1, _), (0, _)]) rfl ?_
    refine mx_sel [1, 0] rfl ?_
    exact P
  · have P := P.2 c45
    refine mx_aload_n (pc := 48) 0 (mx_dd dd_X12_sweepsLines_0 26 (48, .aload_n 0, 1) rfl) rfl rfl ?_
    obtain ⟨g1, P⟩ := P
    obtain ⟨b1, g2, P⟩ := P
    refine mx_getR (pc := 49) mx_fl_X12_319 g1 rfl g2 (mx_dd dd_X12_sweepsLines_0 27 (49, .getfield 319, 3) rfl) ?_
    refine mx_bipush (pc := 52) (v := (83 : Int32)) (mx_dd dd_X12_sweepsLines_0 28 (52, .bipush 83, 2) rfl) (by decide) ?_
    refine mx_iload_n (pc := 54) 1 (mx_dd dd_X12_sweepsLines_0 29 (54, .iload_n 1, 1) rfl) rfl rfl ?_
    refine mx_imul (pc := 55) (mx_dd dd_X12_sweepsLines_0 30 (55, .imul, 1) rfl) ?_
    refine mx_bipush (pc := 56) (v := (82 : Int32)) (mx_dd dd_X12_sweepsLines_0 31 (56, .bipush 82, 2) rfl) (by decide) ?_
    refine mx_iadd (pc := 58) (mx_dd dd_X12_sweepsLines_0 32 (58, .iadd, 1) rfl) ?_
    obtain ⟨g3, P⟩ := P
    obtain ⟨g4, P⟩ := P
    refine mx_iald (pc := 59) g3 g4 (mx_dd dd_X12_sweepsLines_0 33 (59, .iaload, 1) rfl) ?_
    refine mx_iconst (pc := 60) (v := (1 : Int32)) (mx_dd dd_X12_sweepsLines_0 34 (60, .iconst 1, 1) rfl) (by decide) ?_
    refine mx_icmp_ne (pc := 61) 76 (mx_dd dd_X12_sweepsLines_0 35 (61, .if_icmp .ne 15, 3) rfl) rfl (fun c61 => ?_) (fun c61 => ?_)
    · have P := P.1 c61
      exact P
    · have P := P.2 c61
      refine mx_aload_n (pc := 64) 0 (mx_dd dd_X12_sweepsLines_0 36 (64, .aload_n 0, 1) rfl) rfl rfl ?_
      refine mx_aload_n (pc := 65) 0 (mx_dd dd_X12_sweepsLines_0 37 (65, .aload_n 0, 1) rfl) rfl rfl ?_
      refine mx_getR (pc := 66) mx_fl_X12_319 g1 rfl g2 (mx_dd dd_X12_sweepsLines_0 38 (66, .getfield 319, 3) rfl) ?_
      refine mx_bipush (pc := 69) (v := (83 : Int32)) (mx_dd dd_X12_sweepsLines_0 39 (69, .bipush 83, 2) rfl) (by decide) ?_
      refine mx_iload_n (pc := 71) 1 (mx_dd dd_X12_sweepsLines_1 0 (71, .iload_n 1, 1) rfl) rfl rfl ?_
      refine mx_imul (pc := 72) (mx_dd dd_X12_sweepsLines_1 1 (72, .imul, 1) rfl) ?_
      obtain ⟨g5, P⟩ := P
      refine mx_cVV (pc := 73) (Y := mY_X12_marksShell) (As := [.ref _, .int _]) mx_ml_X12_322 mx_y_X12_marksShell rfl g1 (by decide) rfl (by decide) rfl (mx_dd dd_X12_sweepsLines_1 2 (73, .invokevirtual 322, 3) rfl) g5 (by decide) P (fun h1 P => ?_)
      exact P
theorem b_X12_sweepsLines_76 {d : Nat} {h : mxH} {Q : mxRes → mxH → Prop} (x0 : Nat) (x1 : Int32)
    (P : mx_SX mY_X12_sweepsLines d 41 [(0, .ref x0), (1, .int (x1 + (1 : Int32)))] [] h Q) : mx_SX mY_X12_sweepsLines d 76 [(0, .ref x0), (1, .int x1)] [] h Q := by
  refine mx_iinc (pc := 76) 1 (mx_dd dd_X12_sweepsLines_1 3 (76, .iinc 1 1, 3) rfl) rfl (mx_kadd (by decide : Int32.ofInt 1 = (1 : Int32))) (by decide) (lv' := [(1, _), (0, _)]) rfl ?_
  refine mx_goto (pc := 79) 41 (mx_dd dd_X12_sweepsLines_1 4 (79, .goto (-38), 3) rfl) rfl ?_
  refine mx_sel [1, 0] rfl ?_
  exact P
theorem b_X12_sweepsLines_84 {d : Nat} {h : mxH} {Q : mxRes → mxH → Prop} (x0 : Nat) (x1 : Int32)
    (P : (((400 : Int32) ≤ x1 → mx_SX mY_X12_sweepsLines d 131 [(0, .ref x0), (1, .int (0 : Int32))] [] h Q) ∧ (¬ (400 : Int32) ≤ x1 → hpK h x0 = 12 ∧ ∃ b1 : Nat, hpR h x0 61 = some b1 ∧ hpK h b1 = 14 ∧ vp_in x1 (hpZ h b1) ∧ mx_SX mY_X12_sweepsLines d 98 [(0, .ref x0), (1, .int x1), (2, .int (hpI h b1 x1.toNatClampNeg))] [] h Q))) : mx_SX mY_X12_sweepsLines d 84 [(0, .ref x0), (1, .int x1)] [] h Q := by
  refine mx_iload_n (pc := 84) 1 (mx_dd dd_X12_sweepsLines_1 7 (84, .iload_n 1, 1) rfl) rfl rfl ?_
  refine mx_sipush (pc := 85) (v := (400 : Int32)) (mx_dd dd_X12_sweepsLines_1 8 (85, .sipush 400, 3) rfl) (by decide) ?_
  refine mx_icmp_ge (pc := 88) 129 (mx_dd dd_X12_sweepsLines_1 9 (88, .if_icmp .ge 41, 3) rfl) rfl (fun c88 => ?_) (fun c88 => ?_)
  · have P := P.1 c88
    refine mx_iconst (pc := 129) (v := (0 : Int32)) (mx_dd dd_X12_sweepsLines_1 32 (129, .iconst 0, 1) rfl) (by decide) ?_
    refine mx_istore_n (pc := 130) (mx_dd dd_X12_sweepsLines_1 33 (130, .istore_n 1, 1) rfl) rfl (by decide) (lv' := [(1, _), (0, _)]) rfl ?_
    refine mx_sel [1, 0] rfl ?_
    exact P
  · have P := P.2 c88
    refine mx_aload_n (pc := 91) 0 (mx_dd dd_X12_sweepsLines_1 10 (91, .aload_n 0, 1) rfl) rfl rfl ?_
    obtain ⟨g1, P⟩ := P
    obtain ⟨b1, g2, P⟩ := P
    refine mx_getR (pc := 92) mx_fl_X12_325 g1 rfl g2 (mx_dd dd_X12_sweepsLines_1 11 (92, .getfield 325, 3) rfl) ?_
    refine mx_iload_n (pc := 95) 1 (mx_dd dd_X12_sweepsLines_1 12 (95, .iload_n 1, 1) rfl) rfl rfl ?_
    obtain ⟨g3, P⟩ := P
    obtain ⟨g4, P⟩ := P
    refine mx_iald (pc := 96) g3 g4 (mx_dd dd_X12_sweepsLines_1 13 (96, .iaload, 1) rfl) ?_
    refine mx_istore_n (pc := 97) (mx_dd dd_X12_sweepsLines_1 14 (97, .istore_n 2, 1) rfl) rfl (by decide) (lv' := [(2, _), (0, _), (1, _)]) rfl ?_
    refine mx_sel [1, 2, 0] rfl ?_
    exact P
