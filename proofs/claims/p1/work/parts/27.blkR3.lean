/-! PRINTED by wip/whole/genblocks.py: the blocks of the reference -/
theorem b_X12_runsBody {d : Nat} {h : mxH} {Q : mxRes → mxH → Prop} (x0 : Nat) (x1 : Int32) (x2 : Int32)
    (P : hpK h x0 = 12 ∧ ∃ b1 : Nat, hpR h x0 33 = some b1 ∧ hpK h b1 = 14 ∧ vp_in x2 (hpZ h b1) ∧ (((hpI h b1 x2.toNatClampNeg).toInt < 4 ∨ 9 < (hpI h b1 x2.toNatClampNeg).toInt → mx_SX mY_X12_runsBody d 160 [(0, .ref x0), (1, .int x1), (2, .int x2)] [] h Q) ∧ ((hpI h b1 x2.toNatClampNeg).toInt = 4 → mx_SX mY_X12_runsBody d 44 [(0, .ref x0), (1, .int x1), (2, .int x2)] [] h Q) ∧ ((hpI h b1 x2.toNatClampNeg).toInt = 5 → mx_SX mY_X12_runsBody d 53 [(0, .ref x0), (1, .int x1), (2, .int x2)] [] h Q) ∧ ((hpI h b1 x2.toNatClampNeg).toInt = 6 → mx_SX mY_X12_runsBody d 67 [(0, .ref x0), (1, .int x1), (2, .int x2)] [] h Q) ∧ ((hpI h b1 x2.toNatClampNeg).toInt = 7 → mx_SX mY_X12_runsBody d 118 [(0, .ref x0), (1, .int x1), (2, .int x2)] [] h Q) ∧ ((hpI h b1 x2.toNatClampNeg).toInt = 8 → mx_SX mY_X12_runsBody d 127 [(0, .ref x0), (1, .int x1), (2, .int x2)] [] h Q) ∧ ((hpI h b1 x2.toNatClampNeg).toInt = 9 → mx_SX mY_X12_runsBody d 151 [(0, .ref x0), (1, .int x1), (2, .int x2)] [] h Q))) : mx_SM mY_X12_runsBody d [.ref x0, .int x1, .int x2] h Q := by
  refine mx_SM_of (by decide) (Nat.le_of_ble_eq_true rfl) ?_
  show mx_SX mY_X12_runsBody d 0 [(0, .ref x0), (1, .int x1), (2, .int x2)] [] h Q
  refine mx_aload_n (pc := 0) 0 (mx_dd dd_X12_runsBody_0 0 (0, .aload_n 0, 1) rfl) rfl rfl ?_
  obtain ⟨g1, P⟩ := P
  obtain ⟨b1, g2, P⟩ := P
  refine mx_getR (pc := 1) mx_fl_X12_278 g1 rfl g2 (mx_dd dd_X12_runsBody_0 1 (1, .getfield 278, 3) rfl) ?_
  refine mx_iload_n (pc := 4) 2 (mx_dd dd_X12_runsBody_0 2 (4, .iload_n 2, 1) rfl) rfl rfl ?_
  obtain ⟨g3, P⟩ := P
  obtain ⟨g4, P⟩ := P
  refine mx_iald (pc := 5) g3 g4 (mx_dd dd_X12_runsBody_0 3 (5, .iaload, 1) rfl) ?_
  refine mx_tsw (pc := 6) 160 (mx_dd dd_X12_runsBody_0 4 (6, .tableswitch 154 4 9 #[38, 47, 61, 112, 121, 145], 38) rfl) rfl [44, 53, 67, 118, 127, 151] rfl rfl (fun c6 => ?_) ?_
  · have P := P.1 c6
    exact P
  · intro j t hj hx
    have hj9 : j < 6 := (List.getElem?_eq_some_iff.mp hj).1
    have hj8 : j = 0 ∨ j = 1 ∨ j = 2 ∨ j = 3 ∨ j = 4 ∨ j = 5 := by omega
    rcases hj8 with rfl | rfl | rfl | rfl | rfl | rfl
    · cases hj
      have P := P.2.1 (by omega)
      exact P
    · cases hj
      have P := P.2.2.1 (by omega)
      exact P
    · cases hj
      have P := P.2.2.2.1 (by omega)
      exact P
    · cases hj
      have P := P.2.2.2.2.1 (by omega)
      exact P
    · cases hj
      have P := P.2.2.2.2.2.1 (by omega)
      exact P
    · cases hj
      have P := P.2.2.2.2.2.2 (by omega)
      exact P
theorem b_X12_runsBody_44 {d : Nat} {h : mxH} {Q : mxRes → mxH → Prop} (x0 : Nat) (x1 : Int32) (x2 : Int32)
    (P : 1 ≤ d ∧ hpK h x0 = 12 ∧ mx_SM mY_X12_runsRound (d - 1) [.ref x0, .int x1, .int x2] h (mx_KV (fun h1 => Q (.inl none) h1) (mx_XX mY_X12_runsBody Q))) : mx_SX mY_X12_runsBody d 44 [(0, .ref x0), (1, .int x1), (2, .int x2)] [] h Q := by
  refine mx_aload_n (pc := 44) 0 (mx_dd dd_X12_runsBody_0 5 (44, .aload_n 0, 1) rfl) rfl rfl ?_
  refine mx_iload_n (pc := 45) 1 (mx_dd dd_X12_runsBody_0 6 (45, .iload_n 1, 1) rfl) rfl rfl ?_
  refine mx_iload_n (pc := 46) 2 (mx_dd dd_X12_runsBody_0 7 (46, .iload_n 2, 1) rfl) rfl rfl ?_
  obtain ⟨g1, P⟩ := P
  obtain ⟨g2, P⟩ := P
  refine mx_cVV (pc := 47) (Y := mY_X12_runsRound) (As := [.int _, .int _]) mx_ml_X12_516 mx_y_X12_runsRound rfl g2 (by decide) rfl (by decide) rfl (mx_dd dd_X12_runsBody_0 8 (47, .invokevirtual 516, 3) rfl) g1 (by decide) P (fun h1 P => ?_)
  refine mx_goto (pc := 50) 166 (mx_dd dd_X12_runsBody_0 9 (50, .goto 116, 3) rfl) rfl ?_
  exact mx_return (pc := 166) (mx_dd dd_X12_runsBody_1 34 (166, .return_, 1) rfl) rfl P
theorem b_X12_runsBody_53 {d : Nat} {h : mxH} {Q : mxRes → mxH → Prop} (x0 : Nat) (x1 : Int32) (x2 : Int32)
    (P : hpK h x0 = 12 ∧ ∃ b1 : Nat, hpR h x0 34 = some b1 ∧ hpK h b1 = 14 ∧ vp_in x2 (hpZ h b1) ∧ 1 ≤ d ∧ mx_SM mY_X12_runsScript (d - 1) [.ref x0, .int x1, .int (hpI h b1 x2.toNatClampNeg)] h (mx_KV (fun h1 => Q (.inl none) h1) (mx_XX mY_X12_runsBody Q))) : mx_SX mY_X12_runsBody d 53 [(0, .ref x0), (1, .int x1), (2, .int x2)] [] h Q := by
  refine mx_aload_n (pc := 53) 0 (mx_dd dd_X12_runsBody_0 10 (53, .aload_n 0, 1) rfl) rfl rfl ?_
  refine mx_iload_n (pc := 54) 1 (mx_dd dd_X12_runsBody_0 11 (54, .iload_n 1, 1) rfl) rfl rfl ?_
  refine mx_aload_n (pc := 55) 0 (mx_dd dd_X12_runsBody_0 12 (55, .aload_n 0, 1) rfl) rfl rfl ?_
  obtain ⟨g1, P⟩ := P
  obtain ⟨b1, g2, P⟩ := P
  refine mx_getR (pc := 56) mx_fl_X12_281 g1 rfl g2 (mx_dd dd_X12_runsBody_0 13 (56, .getfield 281, 3) rfl) ?_
  refine mx_iload_n (pc := 59) 2 (mx_dd dd_X12_runsBody_0 14 (59, .iload_n 2, 1) rfl) rfl rfl ?_
  obtain ⟨g3, P⟩ := P
  obtain ⟨g4, P⟩ := P
  refine mx_iald (pc := 60) g3 g4 (mx_dd dd_X12_runsBody_0 15 (60, .iaload, 1) rfl) ?_
  obtain ⟨g5, P⟩ := P
  refine mx_cVV (pc := 61) (Y := mY_X12_runsScript) (As := [.int _, .int _]) mx_ml_X12_519 mx_y_X12_runsScript rfl g1 (by decide) rfl (by decide) rfl (mx_dd dd_X12_runsBody_0 16 (61, .invokevirtual 519, 3) rfl) g5 (by decide) P (fun h1 P => ?_)
  refine mx_goto (pc := 64) 166 (mx_dd dd_X12_runsBody_0 17 (64, .goto 102, 3) rfl) rfl ?_
  exact mx_return (pc := 166) (mx_dd dd_X12_runsBody_1 34 (166, .return_, 1) rfl) rfl P
theorem b_X12_runsBody_67 {d : Nat} {h : mxH} {Q : mxRes → mxH → Prop} (x0 : Nat) (x1 : Int32) (x2 : Int32)
    (P : hpK h x0 = 12 ∧ ∃ b1 : Nat, hpR h x0 34 = some b1 ∧ hpK h b1 = 14 ∧ vp_in x2 (hpZ h b1) ∧ 1 ≤ d ∧ mx_SM mY_X12_runsChain (d - 1) [.ref x0, .int x1, .int (hpI h b1 x2.toNatClampNeg)] h (mx_KV (fun h1 => hpK h1 x0 = 12 ∧ mx_SM mY_X12_isHalted (d - 1) [.ref x0, .int x1] h1 (mx_KI (fun v1 h2 => ((v1 = 0 → hpK h2 x0 = 12 ∧ mx_SM mY_X12_statusOf (d - 1) [.ref x0, .int x1] h2 (mx_KI (fun v2 h3 => ((¬ v2 = 0 → hpK h3 x0 = 12 ∧ ∃ b2 : Nat, hpR h3 x0 36 = some b2 ∧ hpK h3 b2 = 14 ∧ vp_in x2 (hpZ h3 b2) ∧ mx_SM mY_X12_runsScript (d - 1) [.ref x0, .int x1, .int (hpI h3 b2 x2.toNatClampNeg)] h3 (mx_KV (fun h4 => Q (.inl none) h4) (mx_XX mY_X12_runsBody Q))) ∧ (v2 = 0 → hpK h3 x0 = 12 ∧ ∃ b3 : Nat, hpR h3 x0 35 = some b3 ∧ hpK h3 b3 = 14 ∧ vp_in x2 (hpZ h3 b3) ∧ mx_SM mY_X12_runsScript (d - 1) [.ref x0, .int x1, .int (hpI h3 b3 x2.toNatClampNeg)] h3 (mx_KV (fun h5 => Q (.inl none) h5) (mx_XX mY_X12_runsBody Q))))) (mx_XX mY_X12_runsBody Q))) ∧ (¬ v1 = 0 → Q (.inl none) h2))) (mx_XX mY_X12_runsBody Q))) (mx_XX mY_X12_runsBody Q))) : mx_SX mY_X12_runsBody d 67 [(0, .ref x0), (1, .int x1), (2, .int x2)] [] h Q := by
  refine mx_aload_n (pc := 67) 0 (mx_dd dd_X12_runsBody_0 18 (67, .aload_n 0, 1) rfl) rfl rfl ?_
  refine mx_iload_n (pc := 68) 1 (mx_dd dd_X12_runsBody_0 19 (68, .iload_n 1, 1) rfl) rfl rfl ?_
  refine mx_aload_n (pc := 69) 0 (mx_dd dd_X12_runsBody_0 20 (69, .aload_n 0, 1) rfl) rfl rfl ?_
  obtain ⟨g1, P⟩ := P
  obtain ⟨b1, g2, P⟩ := P
  refine mx_getR (pc := 70) mx_fl_X12_281 g1 rfl g2 (mx_dd dd_X12_runsBody_0 21 (70, .getfield 281, 3) rfl) ?_
  refine mx_iload_n (pc := 73) 2 (mx_dd dd_X12_runsBody_0 22 (73, .iload_n 2, 1) rfl) rfl rfl ?_
  obtain ⟨g3, P⟩ := P
  obtain ⟨g4, P⟩ := P
  refine mx_iald (pc := 74) g3 g4 (mx_dd dd_X12_runsBody_0 23 (74, .iaload, 1) rfl) ?_
  obtain ⟨g5, P⟩ := P
  refine mx_cVV (pc := 75) (Y := mY_X12_runsChain) (As := [.int _, .int _]) mx_ml_X12_474 mx_y_X12_runsChain rfl g1 (by decide) rfl (by decide) rfl (mx_dd dd_X12_runsBody_0 24 (75, .invokevirtual 474, 3) rfl) g5 (by decide) P (fun h1 P => ?_)
  refine mx_aload_n (pc := 78) 0 (mx_dd dd_X12_runsBody_0 25 (78, .aload_n 0, 1) rfl) rfl rfl ?_
  refine mx_iload_n (pc := 79) 1 (mx_dd dd_X12_runsBody_0 26 (79, .iload_n 1, 1) rfl) rfl rfl ?_
  obtain ⟨g6, P⟩ := P
  refine mx_cVI (pc := 80) (Y := mY_X12_isHalted) (As := [.int _]) mx_ml_X12_468 mx_y_X12_isHalted rfl g6 (by decide) rfl (by decide) rfl (mx_dd dd_X12_runsBody_0 27 (80, .invokevirtual 468, 3) rfl) g5 (by decide) P (fun v1 h2 P => ?_)
  refine mx_if_eq (pc := 83) 87 (mx_dd dd_X12_runsBody_0 28 (83, .ifCond .eq 4, 3) rfl) rfl (fun c83 => ?_) (fun c83 => ?_)
  · have P := P.1 c83
    refine mx_aload_n (pc := 87) 0 (mx_dd dd_X12_runsBody_0 30 (87, .aload_n 0, 1) rfl) rfl rfl ?_
    refine mx_iload_n (pc := 88) 1 (mx_dd dd_X12_runsBody_0 31 (88, .iload_n 1, 1) rfl) rfl rfl ?_
    refine mx_aload_n (pc := 89) 0 (mx_dd dd_X12_runsBody_0 32 (89, .aload_n 0, 1) rfl) rfl rfl ?_
    refine mx_iload_n (pc := 90) 1 (mx_dd dd_X12_runsBody_0 33 (90, .iload_n 1, 1) rfl) rfl rfl ?_
    obtain ⟨g7, P⟩ := P
    refine mx_cVI (pc := 91) (Y := mY_X12_statusOf) (As := [.int _]) mx_ml_X12_477 mx_y_X12_statusOf rfl g7 (by decide) rfl (by simp [Value.category]) rfl (mx_dd dd_X12_runsBody_0 34 (91, .invokevirtual 477, 3) rfl) g5 (by decide) P (fun v2 h3 P => ?_)
    refine mx_if_ne (pc := 94) 106 (mx_dd dd_X12_runsBody_0 35 (94, .ifCond .ne 12, 3) rfl) rfl (fun c94 => ?_) (fun c94 => ?_)
    · have P := P.1 c94
      refine mx_aload_n (pc := 106) 0 (mx_dd dd_X12_runsBody_1 1 (106, .aload_n 0, 1) rfl) rfl rfl ?_
      obtain ⟨g8, P⟩ := P
      obtain ⟨b2, g9, P⟩ := P
      refine mx_getR (pc := 107) mx_fl_X12_287 g8 rfl g9 (mx_dd dd_X12_runsBody_1 2 (107, .getfield 287, 3) rfl) ?_
      refine mx_iload_n (pc := 110) 2 (mx_dd dd_X12_runsBody_1 3 (110, .iload_n 2, 1) rfl) rfl rfl ?_
      obtain ⟨g10, P⟩ := P
      obtain ⟨g11, P⟩ := P
      refine mx_iald (pc := 111) g10 g11 (mx_dd dd_X12_runsBody_1 4 (111, .iaload, 1) rfl) ?_
      refine mx_cVV (pc := 112) (Y := mY_X12_runsScript) (As := [.int _, .int _]) mx_ml_X12_519 mx_y_X12_runsScript rfl g8 (by decide) rfl (by decide) rfl (mx_dd dd_X12_runsBody_1 5 (112, .invokevirtual 519, 3) rfl) g5 (by decide) P (fun h4 P => ?_)
      refine mx_goto (pc := 115) 166 (mx_dd dd_X12_runsBody_1 6 (115, .goto 51, 3) rfl) rfl ?_
      exact mx_return (pc := 166) (mx_dd dd_X12_runsBody_1 34 (166, .return_, 1) rfl) rfl P
    · have P := P.2 c94
      refine mx_aload_n (pc := 97) 0 (mx_dd dd_X12_runsBody_0 36 (97, .aload_n 0, 1) rfl) rfl rfl ?_
      obtain ⟨g12, P⟩ := P
      obtain ⟨b3, g13, P⟩ := P
      refine mx_getR (pc := 98) mx_fl_X12_284 g12 rfl g13 (mx_dd dd_X12_runsBody_0 37 (98, .getfield 284, 3) rfl) ?_
      refine mx_iload_n (pc := 101) 2 (mx_dd dd_X12_runsBody_0 38 (101, .iload_n 2, 1) rfl) rfl rfl ?_
      obtain ⟨g14, P⟩ := P
      obtain ⟨g15, P⟩ := P
      refine mx_iald (pc := 102) g14 g15 (mx_dd dd_X12_runsBody_0 39 (102, .iaload, 1) rfl) ?_
      refine mx_goto (pc := 103) 112 (mx_dd dd_X12_runsBody_1 0 (103, .goto 9, 3) rfl) rfl ?_
      refine mx_cVV (pc := 112) (Y := mY_X12_runsScript) (As := [.int _, .int _]) mx_ml_X12_519 mx_y_X12_runsScript rfl g12 (by decide) rfl (by decide) rfl (mx_dd dd_X12_runsBody_1 5 (112, .invokevirtual 519, 3) rfl) g5 (by decide) P (fun h5 P => ?_)
      refine mx_goto (pc := 115) 166 (mx_dd dd_X12_runsBody_1 6 (115, .goto 51, 3) rfl) rfl ?_
      exact mx_return (pc := 166) (mx_dd dd_X12_runsBody_1 34 (166, .return_, 1) rfl) rfl P
  · have P := P.2 c83
    exact mx_return (pc := 86) (mx_dd dd_X12_runsBody_0 29 (86, .return_, 1) rfl) rfl P
theorem b_X12_runsBody_118 {d : Nat} {h : mxH} {Q : mxRes → mxH → Prop} (x0 : Nat) (x1 : Int32) (x2 : Int32)
    (P : 1 ≤ d ∧ hpK h x0 = 12 ∧ mx_SM mY_X12_runsWhile (d - 1) [.ref x0, .int x1, .int x2] h (mx_KV (fun h1 => Q (.inl none) h1) (mx_XX mY_X12_runsBody Q))) : mx_SX mY_X12_runsBody d 118 [(0, .ref x0), (1, .int x1), (2, .int x2)] [] h Q := by
  refine mx_aload_n (pc := 118) 0 (mx_dd dd_X12_runsBody_1 7 (118, .aload_n 0, 1) rfl) rfl rfl ?_
  refine mx_iload_n (pc := 119) 1 (mx_dd dd_X12_runsBody_1 8 (119, .iload_n 1, 1) rfl) rfl rfl ?_
  refine mx_iload_n (pc := 120) 2 (mx_dd dd_X12_runsBody_1 9 (120, .iload_n 2, 1) rfl) rfl rfl ?_
  obtain ⟨g1, P⟩ := P
  obtain ⟨g2, P⟩ := P
  refine mx_cVV (pc := 121) (Y := mY_X12_runsWhile) (As := [.int _, .int _]) mx_ml_X12_522 mx_y_X12_runsWhile rfl g2 (by decide) rfl (by decide) rfl (mx_dd dd_X12_runsBody_1 10 (121, .invokevirtual 522, 3) rfl) g1 (by decide) P (fun h1 P => ?_)
  refine mx_goto (pc := 124) 166 (mx_dd dd_X12_runsBody_1 11 (124, .goto 42, 3) rfl) rfl ?_
  exact mx_return (pc := 166) (mx_dd dd_X12_runsBody_1 34 (166, .return_, 1) rfl) rfl P
theorem b_X12_runsBody_127 {d : Nat} {h : mxH} {Q : mxRes → mxH → Prop} (x0 : Nat) (x1 : Int32) (x2 : Int32)
    (P : 1 ≤ d ∧ hpK h x0 = 12 ∧ mx_SM mY_X12_defines (d - 1) [.ref x0, .int x1, .int x2] h (mx_KI (fun v1 h1 => ((v1 = 0 → hpK h1 x0 = 12 ∧ mx_SM mY_X12_sets (d - 1) [.ref x0, .int x1, .int (33 : Int32), .int (1 : Int32)] h1 (mx_KV (fun h2 => Q (.inl none) h2) (mx_XX mY_X12_runsBody Q))) ∧ (¬ v1 = 0 → hpK h1 x0 = 12 ∧ mx_SM mY_X12_sets (d - 1) [.ref x0, .int x1, .int (33 : Int32), .int (0 : Int32)] h1 (mx_KV (fun h3 => Q (.inl none) h3) (mx_XX mY_X12_runsBody Q))))) (mx_XX mY_X12_runsBody Q))) : mx_SX mY_X12_runsBody d 127 [(0, .ref x0), (1, .int x1), (2, .int x2)] [] h Q := by
  refine mx_aload_n (pc := 127) 0 (mx_dd dd_X12_runsBody_1 12 (127, .aload_n 0, 1) rfl) rfl rfl ?_
  refine mx_iload_n (pc := 128) 1 (mx_dd dd_X12_runsBody_1 13 (128, .iload_n 1, 1) rfl) rfl rfl ?_
  refine mx_bipush (pc := 129) (v := (33 : Int32)) (mx_dd dd_X12_runsBody_1 14 (129, .bipush 33, 2) rfl) (by decide) ?_
  refine mx_aload_n (pc := 131) 0 (mx_dd dd_X12_runsBody_1 15 (131, .aload_n 0, 1) rfl) rfl rfl ?_
  refine mx_iload_n (pc := 132) 1 (mx_dd dd_X12_runsBody_1 16 (132, .iload_n 1, 1) rfl) rfl rfl ?_
  refine mx_iload_n (pc := 133) 2 (mx_dd dd_X12_runsBody_1 17 (133, .iload_n 2, 1) rfl) rfl rfl ?_
  obtain ⟨g1, P⟩ := P
  obtain ⟨g2, P⟩ := P
  refine mx_cVI (pc := 134) (Y := mY_X12_defines) (As := [.int _, .int _]) mx_ml_X12_525 mx_y_X12_defines rfl g2 (by decide) rfl (by simp [Value.category]) rfl (mx_dd dd_X12_runsBody_1 18 (134, .invokevirtual 525, 3) rfl) g1 (by decide) P (fun v1 h1 P => ?_)
  refine mx_if_eq (pc := 137) 144 (mx_dd dd_X12_runsBody_1 19 (137, .ifCond .eq 7, 3) rfl) rfl (fun c137 => ?_) (fun c137 => ?_)
  · have P := P.1 c137
    refine mx_iconst (pc := 144) (v := (1 : Int32)) (mx_dd dd_X12_runsBody_1 22 (144, .iconst 1, 1) rfl) (by decide) ?_
    obtain ⟨g3, P⟩ := P
    refine mx_cVV (pc := 145) (Y := mY_X12_sets) (As := [.int _, .int _, .int _]) mx_ml_X12_419 mx_y_X12_sets rfl g3 (by decide) rfl (by decide) rfl (mx_dd dd_X12_runsBody_1 23 (145, .invokevirtual 419, 3) rfl) g1 (by decide) P (fun h2 P => ?_)
    refine mx_goto (pc := 148) 166 (mx_dd dd_X12_runsBody_1 24 (148, .goto 18, 3) rfl) rfl ?_
    exact mx_return (pc := 166) (mx_dd dd_X12_runsBody_1 34 (166, .return_, 1) rfl) rfl P
  · have P := P.2 c137
    refine mx_iconst (pc := 140) (v := (0 : Int32)) (mx_dd dd_X12_runsBody_1 20 (140, .iconst 0, 1) rfl) (by decide) ?_
    refine mx_goto (pc := 141) 145 (mx_dd dd_X12_runsBody_1 21 (141, .goto 4, 3) rfl) rfl ?_
    obtain ⟨g4, P⟩ := P
    refine mx_cVV (pc := 145) (Y := mY_X12_sets) (As := [.int _, .int _, .int _]) mx_ml_X12_419 mx_y_X12_sets rfl g4 (by decide) rfl (by decide) rfl (mx_dd dd_X12_runsBody_1 23 (145, .invokevirtual 419, 3) rfl) g1 (by decide) P (fun h3 P => ?_)
    refine mx_goto (pc := 148) 166 (mx_dd dd_X12_runsBody_1 24 (148, .goto 18, 3) rfl) rfl ?_
    exact mx_return (pc := 166) (mx_dd dd_X12_runsBody_1 34 (166, .return_, 1) rfl) rfl P
theorem b_X12_runsBody_151 {d : Nat} {h : mxH} {Q : mxRes → mxH → Prop} (x0 : Nat) (x1 : Int32) (x2 : Int32)
    (P : 1 ≤ d ∧ hpK h x0 = 12 ∧ mx_SM mY_X12_assignsArgument (d - 1) [.ref x0, .int x1, .int x2] h (mx_KV (fun h1 => Q (.inl none) h1) (mx_XX mY_X12_runsBody Q))) : mx_SX mY_X12_runsBody d 151 [(0, .ref x0), (1, .int x1), (2, .int x2)] [] h Q := by
  refine mx_aload_n (pc := 151) 0 (mx_dd dd_X12_runsBody_1 25 (151, .aload_n 0, 1) rfl) rfl rfl ?_
  refine mx_iload_n (pc := 152) 1 (mx_dd dd_X12_runsBody_1 26 (152, .iload_n 1, 1) rfl) rfl rfl ?_
  refine mx_iload_n (pc := 153) 2 (mx_dd dd_X12_runsBody_1 27 (153, .iload_n 2, 1) rfl) rfl rfl ?_
  obtain ⟨g1, P⟩ := P
  obtain ⟨g2, P⟩ := P
  refine mx_cVV (pc := 154) (Y := mY_X12_assignsArgument) (As := [.int _, .int _]) mx_ml_X12_528 mx_y_X12_assignsArgument rfl g2 (by decide) rfl (by decide) rfl (mx_dd dd_X12_runsBody_1 28 (154, .invokevirtual 528, 3) rfl) g1 (by decide) P (fun h1 P => ?_)
  refine mx_goto (pc := 157) 166 (mx_dd dd_X12_runsBody_1 29 (157, .goto 9, 3) rfl) rfl ?_
  exact mx_return (pc := 166) (mx_dd dd_X12_runsBody_1 34 (166, .return_, 1) rfl) rfl P
theorem b_X12_runsBody_160 {d : Nat} {h : mxH} {Q : mxRes → mxH → Prop} (x0 : Nat) (x1 : Int32) (x2 : Int32)
    (P : 1 ≤ d ∧ hpK h x0 = 12 ∧ mx_SM mY_X12_runsPlain (d - 1) [.ref x0, .int x1, .int x2] h (mx_KV (fun h1 => Q (.inl none) h1) (mx_XX mY_X12_runsBody Q))) : mx_SX mY_X12_runsBody d 160 [(0, .ref x0), (1, .int x1), (2, .int x2)] [] h Q := by
  refine mx_aload_n (pc := 160) 0 (mx_dd dd_X12_runsBody_1 30 (160, .aload_n 0, 1) rfl) rfl rfl ?_
  refine mx_iload_n (pc := 161) 1 (mx_dd dd_X12_runsBody_1 31 (161, .iload_n 1, 1) rfl) rfl rfl ?_
  refine mx_iload_n (pc := 162) 2 (mx_dd dd_X12_runsBody_1 32 (162, .iload_n 2, 1) rfl) rfl rfl ?_
  obtain ⟨g1, P⟩ := P
  obtain ⟨g2, P⟩ := P
  refine mx_cVV (pc := 163) (Y := mY_X12_runsPlain) (As := [.int _, .int _]) mx_ml_X12_531 mx_y_X12_runsPlain rfl g2 (by decide) rfl (by decide) rfl (mx_dd dd_X12_runsBody_1 33 (163, .invokevirtual 531, 3) rfl) g1 (by decide) P (fun h1 P => ?_)
  exact mx_return (pc := 166) (mx_dd dd_X12_runsBody_1 34 (166, .return_, 1) rfl) rfl P
theorem b_X12_runsRound {d : Nat} {h : mxH} {Q : mxRes → mxH → Prop} (x0 : Nat) (x1 : Int32) (x2 : Int32)
    (P : 1 ≤ d ∧ hpK h x0 = 12 ∧ mx_SM mY_X12_fork (d - 1) [.ref x0, .int x1] h (mx_KI (fun v1 h1 => hpK h1 x0 = 12 ∧ ∃ b1 : Nat, hpR h1 x0 34 = some b1 ∧ hpK h1 b1 = 14 ∧ vp_in x2 (hpZ h1 b1) ∧ mx_SM mY_X12_runsScript (d - 1) [.ref x0, .int v1, .int (hpI h1 b1 x2.toNatClampNeg)] h1 (mx_KV (fun h2 => hpK h2 x0 = 12 ∧ mx_SM mY_X12_isStoppedNow (d - 1) [.ref x0] h2 (mx_KI (fun v2 h3 => ((¬ v2 = 0 → mx_SX mY_X12_runsRound d 48 [(0, .ref x0), (3, .int v1)] [] h3 Q) ∧ (v2 = 0 → hpK h3 x0 = 12 ∧ mx_SM mY_X12_finishes (d - 1) [.ref x0, .int v1] h3 (mx_KV (fun h4 => hpK h4 x0 = 12 ∧ mx_SM mY_X12_isStoppedNow (d - 1) [.ref x0] h4 (mx_KI (fun v3 h5 => ((¬ v3 = 0 → mx_SX mY_X12_runsRound d 48 [(0, .ref x0), (3, .int v1)] [] h5 Q) ∧ (v3 = 0 → hpK h5 x0 = 12 ∧ mx_SM mY_X12_statusOf (d - 1) [.ref x0, .int v1] h5 (mx_KI (fun v4 h6 => hpK h6 x0 = 12 ∧ mx_SM mY_X12_sets (d - 1) [.ref x0, .int x1, .int (33 : Int32), .int v4] h6 (mx_KV (fun h7 => mx_SX mY_X12_runsRound d 48 [(0, .ref x0), (3, .int v1)] [] h7 Q) (mx_XX mY_X12_runsRound Q))) (mx_XX mY_X12_runsRound Q))))) (mx_XX mY_X12_runsRound Q))) (mx_XX mY_X12_runsRound Q))))) (mx_XX mY_X12_runsRound Q))) (mx_XX mY_X12_runsRound Q))) (mx_XX mY_X12_runsRound Q))) : mx_SM mY_X12_runsRound d [.ref x0, .int x1, .int x2] h Q := by
  refine mx_SM_of (by decide) (Nat.le_of_ble_eq_true rfl) ?_
  show mx_SX mY_X12_runsRound d 0 [(0, .ref x0), (1, .int x1), (2, .int x2)] [] h Q
  refine mx_aload_n (pc := 0) 0 (mx_dd dd_X12_runsRound 0 (0, .aload_n 0, 1) rfl) rfl rfl ?_
  refine mx_iload_n (pc := 1) 1 (mx_dd dd_X12_runsRound 1 (1, .iload_n 1, 1) rfl) rfl rfl ?_
  obtain ⟨g1, P⟩ := P
  obtain ⟨g2, P⟩ := P
  refine mx_cVI (pc := 2) (Y := mY_X12_fork) (As := [.int _]) mx_ml_X12_489 mx_y_X12_fork rfl g2 (by decide) rfl (by decide) rfl (mx_dd dd_X12_runsRound 2 (2, .invokevirtual 489, 3) rfl) g1 (by decide) P (fun v1 h1 P => ?_)
  refine mx_istore_n (pc := 5) (mx_dd dd_X12_runsRound 3 (5, .istore_n 3, 1) rfl) rfl (by decide) (lv' := [(3, _), (0, _), (1, _), (2, _)]) rfl ?_
  refine mx_aload_n (pc := 6) 1 (mx_dd dd_X12_runsRound 4 (6, .aload_n 0, 1) rfl) rfl rfl ?_
  refine mx_iload_n (pc := 7) 0 (mx_dd dd_X12_runsRound 5 (7, .iload_n 3, 1) rfl) rfl rfl ?_
  refine mx_aload_n (pc := 8) 1 (mx_dd dd_X12_runsRound 6 (8, .aload_n 0, 1) rfl) rfl rfl ?_
  obtain ⟨g3, P⟩ := P
  obtain ⟨b1, g4, P⟩ := P
  refine mx_getR (pc := 9) mx_fl_X12_281 g3 rfl g4 (mx_dd dd_X12_runsRound 7 (9, .getfield 281, 3) rfl) ?_
  refine mx_iload_n (pc := 12) 3 (mx_dd dd_X12_runsRound 8 (12, .iload_n 2, 1) rfl) rfl rfl ?_
  obtain ⟨g5, P⟩ := P
  obtain ⟨g6, P⟩ := P
  refine mx_iald (pc := 13) g5 g6 (mx_dd dd_X12_runsRound 9 (13, .iaload, 1) rfl) ?_
  refine mx_cVV (pc := 14) (Y := mY_X12_runsScript) (As := [.int _, .int _]) mx_ml_X12_519 mx_y_X12_runsScript rfl g3 (by decide) rfl (by decide) rfl (mx_dd dd_X12_runsRound 10 (14, .invokevirtual 519, 3) rfl) g1 (by decide) P (fun h2 P => ?_)
  refine mx_aload_n (pc := 17) 1 (mx_dd dd_X12_runsRound 11 (17, .aload_n 0, 1) rfl) rfl rfl ?_
  obtain ⟨g7, P⟩ := P
  refine mx_cVI (pc := 18) (Y := mY_X12_isStoppedNow) (As := []) mx_ml_X12_465 mx_y_X12_isStoppedNow rfl g7 (by decide) rfl (by decide) rfl (mx_dd dd_X12_runsRound 12 (18, .invokevirtual 465, 3) rfl) g1 (by decide) P (fun v2 h3 P => ?_)
  refine mx_if_ne (pc := 21) 48 (mx_dd dd_X12_runsRound 13 (21, .ifCond .ne 27, 3) rfl) rfl (fun c21 => ?_) (fun c21 => ?_)
  · have P := P.1 c21
    refine mx_sel [1, 0] rfl ?_
    exact P
  · have P := P.2 c21
    refine mx_aload_n (pc := 24) 1 (mx_dd dd_X12_runsRound 14 (24, .aload_n 0, 1) rfl) rfl rfl ?_
    refine mx_iload_n (pc := 25) 0 (mx_dd dd_X12_runsRound 15 (25, .iload_n 3, 1) rfl) rfl rfl ?_
    obtain ⟨g8, P⟩ := P
    refine mx_cVV (pc := 26) (Y := mY_X12_finishes) (As := [.int _]) mx_ml_X12_495 mx_y_X12_finishes rfl g8 (by decide) rfl (by decide) rfl (mx_dd dd_X12_runsRound 16 (26, .invokevirtual 495, 3) rfl) g1 (by decide) P (fun h4 P => ?_)
    refine mx_aload_n (pc := 29) 1 (mx_dd dd_X12_runsRound 17 (29, .aload_n 0, 1) rfl) rfl rfl ?_
    obtain ⟨g9, P⟩ := P
    refine mx_cVI (pc := 30) (Y := mY_X12_isStoppedNow) (As := []) mx_ml_X12_465 mx_y_X12_isStoppedNow rfl g9 (by decide) rfl (by decide) rfl (mx_dd dd_X12_runsRound 18 (30, .invokevirtual 465, 3) rfl) g1 (by decide) P (fun v3 h5 P => ?_)
    refine mx_if_ne (pc := 33) 48 (mx_dd dd_X12_runsRound 19 (33, .ifCond .ne 15, 3) rfl) rfl (fun c33 => ?_) (fun c33 => ?_)
    · have P := P.1 c33
      refine mx_sel [1, 0] rfl ?_
      exact P
    · have P := P.2 c33
      refine mx_aload_n (pc := 36) 1 (mx_dd dd_X12_runsRound 20 (36, .aload_n 0, 1) rfl) rfl rfl ?_
      refine mx_iload_n (pc := 37) 2 (mx_dd dd_X12_runsRound 21 (37, .iload_n 1, 1) rfl) rfl rfl ?_
      refine mx_bipush (pc := 38) (v := (33 : Int32)) (mx_dd dd_X12_runsRound 22 (38, .bipush 33, 2) rfl) (by decide) ?_
      refine mx_aload_n (pc := 40) 1 (mx_dd dd_X12_runsRound 23 (40, .aload_n 0, 1) rfl) rfl rfl ?_
      refine mx_iload_n (pc := 41) 0 (mx_dd dd_X12_runsRound 24 (41, .iload_n 3, 1) rfl) rfl rfl ?_
      obtain ⟨g10, P⟩ := P
      refine mx_cVI (pc := 42) (Y := mY_X12_statusOf) (As := [.int _]) mx_ml_X12_477 mx_y_X12_statusOf rfl g10 (by decide) rfl (by simp [Value.category]) rfl (mx_dd dd_X12_runsRound 25 (42, .invokevirtual 477, 3) rfl) g1 (by decide) P (fun v4 h6 P => ?_)
      obtain ⟨g11, P⟩ := P
      refine mx_cVV (pc := 45) (Y := mY_X12_sets) (As := [.int _, .int _, .int _]) mx_ml_X12_419 mx_y_X12_sets rfl g11 (by decide) rfl (by decide) rfl (mx_dd dd_X12_runsRound 26 (45, .invokevirtual 419, 3) rfl) g1 (by decide) P (fun h7 P => ?_)
      refine mx_sel [1, 0] rfl ?_
      exact P
theorem b_X12_runsRound_48 {d : Nat} {h : mxH} {Q : mxRes → mxH → Prop} (x0 : Nat) (x3 : Int32)
    (P : 1 ≤ d ∧ hpK h x0 = 12 ∧ mx_SM mY_X12_sets (d - 1) [.ref x0, .int x3, .int (82 : Int32), .int (0 : Int32)] h (mx_KV (fun h1 => Q (.inl none) h1) (mx_XX mY_X12_runsRound Q))) : mx_SX mY_X12_runsRound d 48 [(0, .ref x0), (3, .int x3)] [] h Q := by
  refine mx_aload_n (pc := 48) 0 (mx_dd dd_X12_runsRound 27 (48, .aload_n 0, 1) rfl) rfl rfl ?_
  refine mx_iload_n (pc := 49) 1 (mx_dd dd_X12_runsRound 28 (49, .iload_n 3, 1) rfl) rfl rfl ?_
  refine mx_bipush (pc := 50) (v := (82 : Int32)) (mx_dd dd_X12_runsRound 29 (50, .bipush 82, 2) rfl) (by decide) ?_
  refine mx_iconst (pc := 52) (v := (0 : Int32)) (mx_dd dd_X12_runsRound 30 (52, .iconst 0, 1) rfl) (by decide) ?_
  obtain ⟨g1, P⟩ := P
  obtain ⟨g2, P⟩ := P
  refine mx_cVV (pc := 53) (Y := mY_X12_sets) (As := [.int _, .int _, .int _]) mx_ml_X12_419 mx_y_X12_sets rfl g2 (by decide) rfl (by decide) rfl (mx_dd dd_X12_runsRound 31 (53, .invokevirtual 419, 3) rfl) g1 (by decide) P (fun h1 P => ?_)
  exact mx_return (pc := 56) (mx_dd dd_X12_runsRound 32 (56, .return_, 1) rfl) rfl P
theorem b_X12_runsWhile {d : Nat} {h : mxH} {Q : mxRes → mxH → Prop} (x0 : Nat) (x1 : Int32) (x2 : Int32)
    (P : hpK h x0 = 12 ∧ ∃ b1 : Nat, hpR h x0 34 = some b1 ∧ hpK h b1 = 14 ∧ vp_in x2 (hpZ h b1) ∧ 1 ≤ d ∧ mx_SM mY_X12_runsChain (d - 1) [.ref x0, .int x1, .int (hpI h b1 x2.toNatClampNeg)] h (mx_KV (fun h1 => mx_SX mY_X12_runsWhile d 13 [(0, .ref x0), (1, .int x1), (2, .int x2), (3, .int (0 : Int32))] [] h1 Q) (mx_XX mY_X12_runsWhile Q))) : mx_SM mY_X12_runsWhile d [.ref x0, .int x1, .int x2] h Q := by
  refine mx_SM_of (by decide) (Nat.le_of_ble_eq_true rfl) ?_
  show mx_SX mY_X12_runsWhile d 0 [(0, .ref x0), (1, .int x1), (2, .int x2)] [] h Q
  refine mx_iconst (pc := 0) (v := (0 : Int32)) (mx_dd dd_X12_runsWhile 0 (0, .iconst 0, 1) rfl) (by decide) ?_
  refine mx_istore_n (pc := 1) (mx_dd dd_X12_runsWhile 1 (1, .istore_n 3, 1) rfl) rfl (by decide) (lv' := [(3, _), (0, _), (1, _), (2, _)]) rfl ?_
  refine mx_aload_n (pc := 2) 1 (mx_dd dd_X12_runsWhile 2 (2, .aload_n 0, 1) rfl) rfl rfl ?_
  refine mx_iload_n (pc := 3) 2 (mx_dd dd_X12_runsWhile 3 (3, .iload_n 1, 1) rfl) rfl rfl ?_
  refine mx_aload_n (pc := 4) 1 (mx_dd dd_X12_runsWhile 4 (4, .aload_n 0, 1) rfl) rfl rfl ?_
  obtain ⟨g1, P⟩ := P
  obtain ⟨b1, g2, P⟩ := P
  refine mx_getR (pc := 5) mx_fl_X12_281 g1 rfl g2 (mx_dd dd_X12_runsWhile 5 (5, .getfield 281, 3) rfl) ?_
  refine mx_iload_n (pc := 8) 3 (mx_dd dd_X12_runsWhile 6 (8, .iload_n 2, 1) rfl) rfl rfl ?_
  obtain ⟨g3, P⟩ := P
  obtain ⟨g4, P⟩ := P
  refine mx_iald (pc := 9) g3 g4 (mx_dd dd_X12_runsWhile 7 (9, .iaload, 1) rfl) ?_
  obtain ⟨g5, P⟩ := P
  refine mx_cVV (pc := 10) (Y := mY_X12_runsChain) (As := [.int _, .int _]) mx_ml_X12_474 mx_y_X12_runsChain rfl g1 (by decide) rfl (by decide) rfl (mx_dd dd_X12_runsWhile 8 (10, .invokevirtual 474, 3) rfl) g5 (by decide) P (fun h1 P => ?_)
  refine mx_sel [1, 2, 3, 0] rfl ?_
  exact P
theorem b_X12_runsWhile_13 {d : Nat} {h : mxH} {Q : mxRes → mxH → Prop} (x0 : Nat) (x1 : Int32) (x2 : Int32) (x3 : Int32)
    (P : 1 ≤ d ∧ hpK h x0 = 12 ∧ mx_SM mY_X12_isHalted (d - 1) [.ref x0, .int x1] h (mx_KI (fun v1 h1 => ((¬ v1 = 0 → mx_SX mY_X12_runsWhile d 69 [(0, .ref x0), (1, .int x1), (3, .int x3)] [] h1 Q) ∧ (v1 = 0 → hpK h1 x0 = 12 ∧ mx_SM mY_X12_statusOf (d - 1) [.ref x0, .int x1] h1 (mx_KI (fun v2 h2 => ((¬ v2 = 0 → mx_SX mY_X12_runsWhile d 69 [(0, .ref x0), (1, .int x1), (3, .int x3)] [] h2 Q) ∧ (v2 = 0 → hpK h2 x0 = 12 ∧ ∃ b1 : Nat, hpR h2 x0 35 = some b1 ∧ hpK h2 b1 = 14 ∧ vp_in x2 (hpZ h2 b1) ∧ mx_SM mY_X12_runsScript (d - 1) [.ref x0, .int x1, .int (hpI h2 b1 x2.toNatClampNeg)] h2 (mx_KV (fun h3 => hpK h3 x0 = 12 ∧ mx_SM mY_X12_isHalted (d - 1) [.ref x0, .int x1] h3 (mx_KI (fun v3 h4 => ((v3 = 0 → hpK h4 x0 = 12 ∧ mx_SM mY_X12_statusOf (d - 1) [.ref x0, .int x1] h4 (mx_KI (fun v4 h5 => hpK h5 x0 = 12 ∧ ∃ b2 : Nat, hpR h5 x0 34 = some b2 ∧ hpK h5 b2 = 14 ∧ vp_in x2 (hpZ h5 b2) ∧ mx_SM mY_X12_runsChain (d - 1) [.ref x0, .int x1, .int (hpI h5 b2 x2.toNatClampNeg)] h5 (mx_KV (fun h6 => mx_SX mY_X12_runsWhile d 13 [(0, .ref x0), (1, .int x1), (2, .int x2), (3, .int v4)] [] h6 Q) (mx_XX mY_X12_runsWhile Q))) (mx_XX mY_X12_runsWhile Q))) ∧ (¬ v3 = 0 → Q (.inl none) h4))) (mx_XX mY_X12_runsWhile Q))) (mx_XX mY_X12_runsWhile Q))))) (mx_XX mY_X12_runsWhile Q))))) (mx_XX mY_X12_runsWhile Q))) : mx_SX mY_X12_runsWhile d 13 [(0, .ref x0), (1, .int x1), (2, .int x2), (3, .int x3)] [] h Q := by
  refine mx_aload_n (pc := 13) 0 (mx_dd dd_X12_runsWhile 9 (13, .aload_n 0, 1) rfl) rfl rfl ?_
  refine mx_iload_n (pc := 14) 1 (mx_dd dd_X12_runsWhile 10 (14, .iload_n 1, 1) rfl) rfl rfl ?_
  obtain ⟨g1, P⟩ := P
  obtain ⟨g2, P⟩ := P
  refine mx_cVI (pc := 15) (Y := mY_X12_isHalted) (As := [.int _]) mx_ml_X12_468 mx_y_X12_isHalted rfl g2 (by decide) rfl (by decide) rfl (mx_dd dd_X12_runsWhile 11 (15, .invokevirtual 468, 3) rfl) g1 (by decide) P (fun v1 h1 P => ?_)
  refine mx_if_ne (pc := 18) 69 (mx_dd dd_X12_runsWhile 12 (18, .ifCond .ne 51, 3) rfl) rfl (fun c18 => ?_) (fun c18 => ?_)
  · have P := P.1 c18
    refine mx_sel [0, 1, 3] rfl ?_
    exact P
  · have P := P.2 c18
    refine mx_aload_n (pc := 21) 0 (mx_dd dd_X12_runsWhile 13 (21, .aload_n 0, 1) rfl) rfl rfl ?_
    refine mx_iload_n (pc := 22) 1 (mx_dd dd_X12_runsWhile 14 (22, .iload_n 1, 1) rfl) rfl rfl ?_
    obtain ⟨g3, P⟩ := P
    refine mx_cVI (pc := 23) (Y := mY_X12_statusOf) (As := [.int _]) mx_ml_X12_477 mx_y_X12_statusOf rfl g3 (by decide) rfl (by decide) rfl (mx_dd dd_X12_runsWhile 15 (23, .invokevirtual 477, 3) rfl) g1 (by decide) P (fun v2 h2 P => ?_)
    refine mx_if_ne (pc := 26) 69 (mx_dd dd_X12_runsWhile 16 (26, .ifCond .ne 43, 3) rfl) rfl (fun c26 => ?_) (fun c26 => ?_)
    · have P := P.1 c26
      refine mx_sel [0, 1, 3] rfl ?_
      exact P
    · have P := P.2 c26
      refine mx_aload_n (pc := 29) 0 (mx_dd dd_X12_runsWhile 17 (29, .aload_n 0, 1) rfl) rfl rfl ?_
      refine mx_iload_n (pc := 30) 1 (mx_dd dd_X12_runsWhile 18 (30, .iload_n 1, 1) rfl) rfl rfl ?_
      refine mx_aload_n (pc := 31) 0 (mx_dd dd_X12_runsWhile 19 (31, .aload_n 0, 1) rfl) rfl rfl ?_
      obtain ⟨g4, P⟩ := P
      obtain ⟨b1, g5, P⟩ := P
      refine mx_getR (pc := 32) mx_fl_X12_284 g4 rfl g5 (mx_dd dd_X12_runsWhile 20 (32, .getfield 284, 3) rfl) ?_
      refine mx_iload_n (pc := 35) 2 (mx_dd dd_X12_runsWhile 21 (35, .iload_n 2, 1) rfl) rfl rfl ?_
      obtain ⟨g6, P⟩ := P
      obtain ⟨g7, P⟩ := P
      refine mx_iald (pc := 36) g6 g7 (mx_dd dd_X12_runsWhile 22 (36, .iaload, 1) rfl) ?_
      refine mx_cVV (pc := 37) (Y := mY_X12_runsScript) (As := [.int _, .int _]) mx_ml_X12_519 mx_y_X12_runsScript rfl g4 (by decide) rfl (by decide) rfl (mx_dd dd_X12_runsWhile 23 (37, .invokevirtual 519, 3) rfl) g1 (by decide) P (fun h3 P => ?_)
      refine mx_aload_n (pc := 40) 0 (mx_dd dd_X12_runsWhile 24 (40, .aload_n 0, 1) rfl) rfl rfl ?_
      refine mx_iload_n (pc := 41) 1 (mx_dd dd_X12_runsWhile 25 (41, .iload_n 1, 1) rfl) rfl rfl ?_
      obtain ⟨g8, P⟩ := P
      refine mx_cVI (pc := 42) (Y := mY_X12_isHalted) (As := [.int _]) mx_ml_X12_468 mx_y_X12_isHalted rfl g8 (by decide) rfl (by decide) rfl (mx_dd dd_X12_runsWhile 26 (42, .invokevirtual 468, 3) rfl) g1 (by decide) P (fun v3 h4 P => ?_)
      refine mx_if_eq (pc := 45) 49 (mx_dd dd_X12_runsWhile 27 (45, .ifCond .eq 4, 3) rfl) rfl (fun c45 => ?_) (fun c45 => ?_)
      · have P := P.1 c45
        refine mx_aload_n (pc := 49) 0 (mx_dd dd_X12_runsWhile 29 (49, .aload_n 0, 1) rfl) rfl rfl ?_
        refine mx_iload_n (pc := 50) 1 (mx_dd dd_X12_runsWhile 30 (50, .iload_n 1, 1) rfl) rfl rfl ?_
        obtain ⟨g9, P⟩ := P
        refine mx_cVI (pc := 51) (Y := mY_X12_statusOf) (As := [.int _]) mx_ml_X12_477 mx_y_X12_statusOf rfl g9 (by decide) rfl (by decide) rfl (mx_dd dd_X12_runsWhile 31 (51, .invokevirtual 477, 3) rfl) g1 (by decide) P (fun v4 h5 P => ?_)
        refine mx_istore_n (pc := 54) (mx_dd dd_X12_runsWhile 32 (54, .istore_n 3, 1) rfl) rfl (by decide) (lv' := [(3, _), (0, _), (1, _), (2, _)]) rfl ?_
        refine mx_aload_n (pc := 55) 1 (mx_dd dd_X12_runsWhile 33 (55, .aload_n 0, 1) rfl) rfl rfl ?_
        refine mx_iload_n (pc := 56) 2 (mx_dd dd_X12_runsWhile 34 (56, .iload_n 1, 1) rfl) rfl rfl ?_
        refine mx_aload_n (pc := 57) 1 (mx_dd dd_X12_runsWhile 35 (57, .aload_n 0, 1) rfl) rfl rfl ?_
        obtain ⟨g10, P⟩ := P
        obtain ⟨b2, g11, P⟩ := P
        refine mx_getR (pc := 58) mx_fl_X12_281 g10 rfl g11 (mx_dd dd_X12_runsWhile 36 (58, .getfield 281, 3) rfl) ?_
        refine mx_iload_n (pc := 61) 3 (mx_dd dd_X12_runsWhile 37 (61, .iload_n 2, 1) rfl) rfl rfl ?_
        obtain ⟨g12, P⟩ := P
        obtain ⟨g13, P⟩ := P
        refine mx_iald (pc := 62) g12 g13 (mx_dd dd_X12_runsWhile 38 (62, .iaload, 1) rfl) ?_
        refine mx_cVV (pc := 63) (Y := mY_X12_runsChain) (As := [.int _, .int _]) mx_ml_X12_474 mx_y_X12_runsChain rfl g10 (by decide) rfl (by decide) rfl (mx_dd dd_X12_runsWhile 39 (63, .invokevirtual 474, 3) rfl) g1 (by decide) P (fun h6 P => ?_)
        refine mx_goto (pc := 66) 13 (mx_dd dd_X12_runsWhile 40 (66, .goto (-53), 3) rfl) rfl ?_
        refine mx_sel [1, 2, 3, 0] rfl ?_
        exact P
      · have P := P.2 c45
        exact mx_return (pc := 48) (mx_dd dd_X12_runsWhile 28 (48, .return_, 1) rfl) rfl P
theorem b_X12_runsWhile_69 {d : Nat} {h : mxH} {Q : mxRes → mxH → Prop} (x0 : Nat) (x1 : Int32) (x3 : Int32)
    (P : 1 ≤ d ∧ hpK h x0 = 12 ∧ mx_SM mY_X12_isHalted (d - 1) [.ref x0, .int x1] h (mx_KI (fun v1 h1 => ((¬ v1 = 0 → Q (.inl none) h1) ∧ (v1 = 0 → hpK h1 x0 = 12 ∧ mx_SM mY_X12_sets (d - 1) [.ref x0, .int x1, .int (33 : Int32), .int x3] h1 (mx_KV (fun h2 => Q (.inl none) h2) (mx_XX mY_X12_runsWhile Q))))) (mx_XX mY_X12_runsWhile Q))) : mx_SX mY_X12_runsWhile d 69 [(0, .ref x0), (1, .int x1), (3, .int x3)] [] h Q := by
  refine mx_aload_n (pc := 69) 0 (mx_dd dd_X12_runsWhile 41 (69, .aload_n 0, 1) rfl) rfl rfl ?_
  refine mx_iload_n (pc := 70) 1 (mx_dd dd_X12_runsWhile 42 (70, .iload_n 1, 1) rfl) rfl rfl ?_
  obtain ⟨g1, P⟩ := P
  obtain ⟨g2, P⟩ := P
  refine mx_cVI (pc := 71) (Y := mY_X12_isHalted) (As := [.int _]) mx_ml_X12_468 mx_y_X12_isHalted rfl g2 (by decide) rfl (by decide) rfl (mx_dd dd_X12_runsWhile 43 (71, .invokevirtual 468, 3) rfl) g1 (by decide) P (fun v1 h1 P => ?_)
  refine mx_if_ne (pc := 74) 85 (mx_dd dd_X12_runsWhile 44 (74, .ifCond .ne 11, 3) rfl) rfl (fun c74 => ?_) (fun c74 => ?_)
  · have P := P.1 c74
    exact mx_return (pc := 85) (mx_dd dd_X12_runsWhile 50 (85, .return_, 1) rfl) rfl P
  · have P := P.2 c74
    refine mx_aload_n (pc := 77) 0 (mx_dd dd_X12_runsWhile 45 (77, .aload_n 0, 1) rfl) rfl rfl ?_
    refine mx_iload_n (pc := 78) 1 (mx_dd dd_X12_runsWhile 46 (78, .iload_n 1, 1) rfl) rfl rfl ?_
    refine mx_bipush (pc := 79) (v := (33 : Int32)) (mx_dd dd_X12_runsWhile 47 (79, .bipush 33, 2) rfl) (by decide) ?_
    refine mx_iload_n (pc := 81) 2 (mx_dd dd_X12_runsWhile 48 (81, .iload_n 3, 1) rfl) rfl rfl ?_
    obtain ⟨g3, P⟩ := P
    refine mx_cVV (pc := 82) (Y := mY_X12_sets) (As := [.int _, .int _, .int _]) mx_ml_X12_419 mx_y_X12_sets rfl g3 (by decide) rfl (by decide) rfl (mx_dd dd_X12_runsWhile 49 (82, .invokevirtual 419, 3) rfl) g1 (by decide) P (fun h2 P => ?_)
    exact mx_return (pc := 85) (mx_dd dd_X12_runsWhile 50 (85, .return_, 1) rfl) rfl P
theorem b_X12_defines {d : Nat} {h : mxH} {Q : mxRes → mxH → Prop} (x0 : Nat) (x1 : Int32) (x2 : Int32)
    (P : hpK h x0 = 12 ∧ ∃ b1 : Nat, hpR h x0 40 = some b1 ∧ hpK h b1 = 15 ∧ vp_in x2 (hpZ h b1) ∧ 1 ≤ d ∧ mx_SM mY_X12_functionOf (d - 1) [.ref x0, .int x1, .long (hpL h b1 x2.toNatClampNeg)] h (mx_KI (fun v1 h1 => ((¬ v1 = (-1 : Int32) → mx_SX mY_X12_defines d 31 [(0, .ref x0), (1, .int x1), (2, .int x2), (3, .int v1)] [] h1 Q) ∧ (v1 = (-1 : Int32) → hpK h1 x0 = 12 ∧ mx_SM mY_X12_of (d - 1) [.ref x0, .int x1, .int (21 : Int32)] h1 (mx_KI (fun v2 h2 => ((¬ v2 = (10 : Int32) → mx_SX mY_X12_defines d 31 [(0, .ref x0), (1, .int x1), (2, .int x2), (3, .int v1)] [] h2 Q) ∧ (v2 = (10 : Int32) → Q (.inl (some (.int (0 : Int32)))) h2))) (mx_XX mY_X12_defines Q))))) (mx_XX mY_X12_defines Q))) : mx_SM mY_X12_defines d [.ref x0, .int x1, .int x2] h Q := by
  refine mx_SM_of (by decide) (Nat.le_of_ble_eq_true rfl) ?_
  show mx_SX mY_X12_defines d 0 [(0, .ref x0), (1, .int x1), (2, .int x2)] [] h Q
  refine mx_aload_n (pc := 0) 0 (mx_dd dd_X12_defines 0 (0, .aload_n 0, 1) rfl) rfl rfl ?_
  refine mx_iload_n (pc := 1) 1 (mx_dd dd_X12_defines 1 (1, .iload_n 1, 1) rfl) rfl rfl ?_
  refine mx_aload_n (pc := 2) 0 (mx_dd dd_X12_defines 2 (2, .aload_n 0, 1) rfl) rfl rfl ?_
  obtain ⟨g1, P⟩ := P
  obtain ⟨b1, g2, P⟩ := P
  refine mx_getR (pc := 3) mx_fl_X12_299 g1 rfl g2 (mx_dd dd_X12_defines 3 (3, .getfield 299, 3) rfl) ?_
  refine mx_iload_n (pc := 6) 2 (mx_dd dd_X12_defines 4 (6, .iload_n 2, 1) rfl) rfl rfl ?_
  obtain ⟨g3, P⟩ := P
  obtain ⟨g4, P⟩ := P
  refine mx_lald (pc := 7) g3 g4 (mx_dd dd_X12_defines 5 (7, .laload, 1) rfl) ?_
  obtain ⟨g5, P⟩ := P
  refine mx_cVI (pc := 8) (Y := mY_X12_functionOf) (As := [.int _, .long _]) mx_ml_X12_534 mx_y_X12_functionOf rfl g1 (by decide) rfl (by decide) rfl (mx_dd dd_X12_defines 6 (8, .invokevirtual 534, 3) rfl) g5 (by decide) P (fun v1 h1 P => ?_)
  refine mx_istore_n (pc := 11) (mx_dd dd_X12_defines 7 (11, .istore_n 3, 1) rfl) rfl (by decide) (lv' := [(3, _), (0, _), (1, _), (2, _)]) rfl ?_
  refine mx_iload_n (pc := 12) 0 (mx_dd dd_X12_defines 8 (12, .iload_n 3, 1) rfl) rfl rfl ?_
  refine mx_iconst (pc := 13) (v := (-1 : Int32)) (mx_dd dd_X12_defines 9 (13, .iconst (-1), 1) rfl) (by decide) ?_
  refine mx_icmp_ne (pc := 14) 31 (mx_dd dd_X12_defines 10 (14, .if_icmp .ne 17, 3) rfl) rfl (fun c14 => ?_) (fun c14 => ?_)
  · have P := P.1 c14
    refine mx_sel [1, 2, 3, 0] rfl ?_
    exact P
  · have P := P.2 c14
    refine mx_aload_n (pc := 17) 1 (mx_dd dd_X12_defines 11 (17, .aload_n 0, 1) rfl) rfl rfl ?_
    refine mx_iload_n (pc := 18) 2 (mx_dd dd_X12_defines 12 (18, .iload_n 1, 1) rfl) rfl rfl ?_
    refine mx_bipush (pc := 19) (v := (21 : Int32)) (mx_dd dd_X12_defines 13 (19, .bipush 21, 2) rfl) (by decide) ?_
    obtain ⟨g6, P⟩ := P
    refine mx_cVI (pc := 21) (Y := mY_X12_of) (As := [.int _, .int _]) mx_ml_X12_416 mx_y_X12_of rfl g6 (by decide) rfl (by decide) rfl (mx_dd dd_X12_defines 14 (21, .invokevirtual 416, 3) rfl) g5 (by decide) P (fun v2 h2 P => ?_)
    refine mx_bipush (pc := 24) (v := (10 : Int32)) (mx_dd dd_X12_defines 15 (24, .bipush 10, 2) rfl) (by decide) ?_
    refine mx_icmp_ne (pc := 26) 31 (mx_dd dd_X12_defines 16 (26, .if_icmp .ne 5, 3) rfl) rfl (fun c26 => ?_) (fun c26 => ?_)
    · have P := P.1 c26
      refine mx_sel [1, 2, 3, 0] rfl ?_
      exact P
    · have P := P.2 c26
      refine mx_iconst (pc := 29) (v := (0 : Int32)) (mx_dd dd_X12_defines 17 (29, .iconst 0, 1) rfl) (by decide) ?_
      exact mx_ireturn (pc := 30) (mx_dd dd_X12_defines 18 (30, .ireturn, 1) rfl) rfl rfl P
theorem b_X12_defines_31 {d : Nat} {h : mxH} {Q : mxRes → mxH → Prop} (x0 : Nat) (x1 : Int32) (x2 : Int32) (x3 : Int32)
    (P : ((¬ x3 = (-1 : Int32) → mx_SX mY_X12_defines d 69 [(0, .ref x0), (1, .int x1), (2, .int x2), (3, .int x3)] [] h Q) ∧ (x3 = (-1 : Int32) → 1 ≤ d ∧ hpK h x0 = 12 ∧ mx_SM mY_X12_of (d - 1) [.ref x0, .int x1, .int (21 : Int32)] h (mx_KI (fun v1 h1 => hpK h1 x0 = 12 ∧ mx_SM mY_X12_sets (d - 1) [.ref x0, .int x1, .int (21 : Int32), .int (v1 + (1 : Int32))] h1 (mx_KV (fun h2 => hpK h2 x0 = 12 ∧ ∃ b1 : Nat, hpR h2 x0 40 = some b1 ∧ hpK h2 b1 = 15 ∧ vp_in x2 (hpZ h2 b1) ∧ mx_SM mY_X12_setsName (d - 1) [.ref x0, .int x1, .int ((20 : Int32) + v1), .long (hpL h2 b1 x2.toNatClampNeg)] h2 (mx_KV (fun h3 => mx_SX mY_X12_defines d 69 [(0, .ref x0), (1, .int x1), (2, .int x2), (3, .int v1)] [] h3 Q) (mx_XX mY_X12_defines Q))) (mx_XX mY_X12_defines Q))) (mx_XX mY_X12_defines Q))))) : mx_SX mY_X12_defines d 31 [(0, .ref x0), (1, .int x1), (2, .int x2), (3, .int x3)] [] h Q := by
  refine mx_iload_n (pc := 31) 3 (mx_dd dd_X12_defines 19 (31, .iload_n 3, 1) rfl) rfl rfl ?_
  refine mx_iconst (pc := 32) (v := (-1 : Int32)) (mx_dd dd_X12_defines 20 (32, .iconst (-1), 1) rfl) (by decide) ?_
  refine mx_icmp_ne (pc := 33) 69 (mx_dd dd_X12_defines 21 (33, .if_icmp .ne 36, 3) rfl) rfl (fun c33 => ?_) (fun c33 => ?_)
  · have P := P.1 c33
    exact P
  · have P := P.2 c33
    refine mx_aload_n (pc := 36) 0 (mx_dd dd_X12_defines 22 (36, .aload_n 0, 1) rfl) rfl rfl ?_
    refine mx_iload_n (pc := 37) 1 (mx_dd dd_X12_defines 23 (37, .iload_n 1, 1) rfl) rfl rfl ?_
    refine mx_bipush (pc := 38) (v := (21 : Int32)) (mx_dd dd_X12_defines 24 (38, .bipush 21, 2) rfl) (by decide) ?_
    obtain ⟨g1, P⟩ := P
    obtain ⟨g2, P⟩ := P
    refine mx_cVI (pc := 40) (Y := mY_X12_of) (As := [.int _, .int _]) mx_ml_X12_416 mx_y_X12_of rfl g2 (by decide) rfl (by decide) rfl (mx_dd dd_X12_defines 25 (40, .invokevirtual 416, 3) rfl) g1 (by decide) P (fun v1 h1 P => ?_)
    refine mx_istore_n (pc := 43) (mx_dd dd_X12_defines 26 (43, .istore_n 3, 1) rfl) rfl (by decide) (lv' := [(3, _), (0, _), (1, _), (2, _)]) rfl ?_
    refine mx_aload_n (pc := 44) 1 (mx_dd dd_X12_defines 27 (44, .aload_n 0, 1) rfl) rfl rfl ?_
    refine mx_iload_n (pc := 45) 2 (mx_dd dd_X12_defines 28 (45, .iload_n 1, 1) rfl) rfl rfl ?_
    refine mx_bipush (pc := 46) (v := (21 : Int32)) (mx_dd dd_X12_defines 29 (46, .bipush 21, 2) rfl) (by decide) ?_
    refine mx_iload_n (pc := 48) 0 (mx_dd dd_X12_defines 30 (48, .iload_n 3, 1) rfl) rfl rfl ?_
    refine mx_iconst (pc := 49) (v := (1 : Int32)) (mx_dd dd_X12_defines 31 (49, .iconst 1, 1) rfl) (by decide) ?_
    refine mx_iadd (pc := 50) (mx_dd dd_X12_defines 32 (50, .iadd, 1) rfl) ?_
    obtain ⟨g3, P⟩ := P
    refine mx_cVV (pc := 51) (Y := mY_X12_sets) (As := [.int _, .int _, .int _]) mx_ml_X12_419 mx_y_X12_sets rfl g3 (by decide) rfl (by decide) rfl (mx_dd dd_X12_defines 33 (51, .invokevirtual 419, 3) rfl) g1 (by decide) P (fun h2 P => ?_)
    refine mx_aload_n (pc := 54) 1 (mx_dd dd_X12_defines 34 (54, .aload_n 0, 1) rfl) rfl rfl ?_
    refine mx_iload_n (pc := 55) 2 (mx_dd dd_X12_defines 35 (55, .iload_n 1, 1) rfl) rfl rfl ?_
    refine mx_bipush (pc := 56) (v := (20 : Int32)) (mx_dd dd_X12_defines 36 (56, .bipush 20, 2) rfl) (by decide) ?_
    refine mx_iload_n (pc := 58) 0 (mx_dd dd_X12_defines 37 (58, .iload_n 3, 1) rfl) rfl rfl ?_
    refine mx_iadd (pc := 59) (mx_dd dd_X12_defines 38 (59, .iadd, 1) rfl) ?_
    refine mx_aload_n (pc := 60) 1 (mx_dd dd_X12_defines 39 (60, .aload_n 0, 1) rfl) rfl rfl ?_
    obtain ⟨g4, P⟩ := P
    obtain ⟨b1, g5, P⟩ := P
    refine mx_getR (pc := 61) mx_fl_X12_299 g4 rfl g5 (mx_dd dd_X12_defines 40 (61, .getfield 299, 3) rfl) ?_
    refine mx_iload_n (pc := 64) 3 (mx_dd dd_X12_defines 41 (64, .iload_n 2, 1) rfl) rfl rfl ?_
    obtain ⟨g6, P⟩ := P
    obtain ⟨g7, P⟩ := P
    refine mx_lald (pc := 65) g6 g7 (mx_dd dd_X12_defines 42 (65, .laload, 1) rfl) ?_
    refine mx_cVV (pc := 66) (Y := mY_X12_setsName) (As := [.int _, .int _, .long _]) mx_ml_X12_427 mx_y_X12_setsName rfl g4 (by decide) rfl (by decide) rfl (mx_dd dd_X12_defines 43 (66, .invokevirtual 427, 3) rfl) g1 (by decide) P (fun h3 P => ?_)
    refine mx_sel [1, 2, 3, 0] rfl ?_
    exact P
theorem b_X12_defines_69 {d : Nat} {h : mxH} {Q : mxRes → mxH → Prop} (x0 : Nat) (x1 : Int32) (x2 : Int32) (x3 : Int32)
    (P : hpK h x0 = 12 ∧ ∃ b1 : Nat, hpR h x0 34 = some b1 ∧ hpK h b1 = 14 ∧ vp_in x2 (hpZ h b1) ∧ 1 ≤ d ∧ mx_SM mY_X12_sets (d - 1) [.ref x0, .int x1, .int ((22 : Int32) + x3), .int (hpI h b1 x2.toNatClampNeg)] h (mx_KV (fun h1 => Q (.inl (some (.int (1 : Int32)))) h1) (mx_XX mY_X12_defines Q))) : mx_SX mY_X12_defines d 69 [(0, .ref x0), (1, .int x1), (2, .int x2), (3, .int x3)] [] h Q := by
  refine mx_aload_n (pc := 69) 0 (mx_dd dd_X12_defines 44 (69, .aload_n 0, 1) rfl) rfl rfl ?_
  refine mx_iload_n (pc := 70) 1 (mx_dd dd_X12_defines 45 (70, .iload_n 1, 1) rfl) rfl rfl ?_
  refine mx_bipush (pc := 71) (v := (22 : Int32)) (mx_dd dd_X12_defines 46 (71, .bipush 22, 2) rfl) (by decide) ?_
  refine mx_iload_n (pc := 73) 3 (mx_dd dd_X12_defines 47 (73, .iload_n 3, 1) rfl) rfl rfl ?_
  refine mx_iadd (pc := 74) (mx_dd dd_X12_defines 48 (74, .iadd, 1) rfl) ?_
  refine mx_aload_n (pc := 75) 0 (mx_dd dd_X12_defines 49 (75, .aload_n 0, 1) rfl) rfl rfl ?_
  obtain ⟨g1, P⟩ := P
  obtain ⟨b1, g2, P⟩ := P
  refine mx_getR (pc := 76) mx_fl_X12_281 g1 rfl g2 (mx_dd dd_X12_defines 50 (76, .getfield 281, 3) rfl) ?_
  refine mx_iload_n (pc := 79) 2 (mx_dd dd_X12_defines 51 (79, .iload_n 2, 1) rfl) rfl rfl ?_
  obtain ⟨g3, P⟩ := P
  obtain ⟨g4, P⟩ := P
  refine mx_iald (pc := 80) g3 g4 (mx_dd dd_X12_defines 52 (80, .iaload, 1) rfl) ?_
  obtain ⟨g5, P⟩ := P
  refine mx_cVV (pc := 81) (Y := mY_X12_sets) (As := [.int _, .int _, .int _]) mx_ml_X12_419 mx_y_X12_sets rfl g1 (by decide) rfl (by decide) rfl (mx_dd dd_X12_defines 53 (81, .invokevirtual 419, 3) rfl) g5 (by decide) P (fun h1 P => ?_)
  refine mx_iconst (pc := 84) (v := (1 : Int32)) (mx_dd dd_X12_defines 54 (84, .iconst 1, 1) rfl) (by decide) ?_
  exact mx_ireturn (pc := 85) (mx_dd dd_X12_defines 55 (85, .ireturn, 1) rfl) rfl rfl P
theorem b_X12_calls {d : Nat} {h : mxH} {Q : mxRes → mxH → Prop} (x0 : Nat) (x1 : Int32) (x2 : Int32)
    (P : 1 ≤ d ∧ hpK h x0 = 12 ∧ mx_SM mY_X12_of (d - 1) [.ref x0, .int x1, .int (46 : Int32)] h (mx_KI (fun v1 h1 => ((¬ v1 = (4 : Int32) → hpK h1 x0 = 12 ∧ mx_SM mY_X12_of (d - 1) [.ref x0, .int x1, .int (46 : Int32)] h1 (mx_KI (fun v2 h2 => hpK h2 x0 = 12 ∧ mx_SM mY_X12_sets (d - 1) [.ref x0, .int x1, .int (46 : Int32), .int (v2 + (1 : Int32))] h2 (mx_KV (fun h3 => hpK h3 x0 = 12 ∧ mx_SM mY_X12_runsScript (d - 1) [.ref x0, .int x1, .int x2] h3 (mx_KV (fun h4 => hpK h4 x0 = 12 ∧ mx_SM mY_X12_of (d - 1) [.ref x0, .int x1, .int (46 : Int32)] h4 (mx_KI (fun v3 h5 => hpK h5 x0 = 12 ∧ mx_SM mY_X12_sets (d - 1) [.ref x0, .int x1, .int (46 : Int32), .int (v3 - (1 : Int32))] h5 (mx_KV (fun h6 => Q (.inl none) h6) (mx_XX mY_X12_calls Q))) (mx_XX mY_X12_calls Q))) (mx_XX mY_X12_calls Q))) (mx_XX mY_X12_calls Q))) (mx_XX mY_X12_calls Q))) ∧ (v1 = (4 : Int32) → hpK h1 x0 = 12 ∧ mx_SM mY_X12_sets (d - 1) [.ref x0, .int x1, .int (33 : Int32), .int (126 : Int32)] h1 (mx_KV (fun h7 => Q (.inl none) h7) (mx_XX mY_X12_calls Q))))) (mx_XX mY_X12_calls Q))) : mx_SM mY_X12_calls d [.ref x0, .int x1, .int x2] h Q := by
  refine mx_SM_of (by decide) (Nat.le_of_ble_eq_true rfl) ?_
  show mx_SX mY_X12_calls d 0 [(0, .ref x0), (1, .int x1), (2, .int x2)] [] h Q
  refine mx_aload_n (pc := 0) 0 (mx_dd dd_X12_calls 0 (0, .aload_n 0, 1) rfl) rfl rfl ?_
  refine mx_iload_n (pc := 1) 1 (mx_dd dd_X12_calls 1 (1, .iload_n 1, 1) rfl) rfl rfl ?_
  refine mx_bipush (pc := 2) (v := (46 : Int32)) (mx_dd dd_X12_calls 2 (2, .bipush 46, 2) rfl) (by decide) ?_
  obtain ⟨g1, P⟩ := P
  obtain ⟨g2, P⟩ := P
  refine mx_cVI (pc := 4) (Y := mY_X12_of) (As := [.int _, .int _]) mx_ml_X12_416 mx_y_X12_of rfl g2 (by decide) rfl (by decide) rfl (mx_dd dd_X12_calls 3 (4, .invokevirtual 416, 3) rfl) g1 (by decide) P (fun v1 h1 P => ?_)
  refine mx_iconst (pc := 7) (v := (4 : Int32)) (mx_dd dd_X12_calls 4 (7, .iconst 4, 1) rfl) (by decide) ?_
  refine mx_icmp_ne (pc := 8) 21 (mx_dd dd_X12_calls 5 (8, .if_icmp .ne 13, 3) rfl) rfl (fun c8 => ?_) (fun c8 => ?_)
  · have P := P.1 c8
    refine mx_aload_n (pc := 21) 0 (mx_dd dd_X12_calls 12 (21, .aload_n 0, 1) rfl) rfl rfl ?_
    refine mx_iload_n (pc := 22) 1 (mx_dd dd_X12_calls 13 (22, .iload_n 1, 1) rfl) rfl rfl ?_
    refine mx_bipush (pc := 23) (v := (46 : Int32)) (mx_dd dd_X12_calls 14 (23, .bipush 46, 2) rfl) (by decide) ?_
    refine mx_aload_n (pc := 25) 0 (mx_dd dd_X12_calls 15 (25, .aload_n 0, 1) rfl) rfl rfl ?_
    refine mx_iload_n (pc := 26) 1 (mx_dd dd_X12_calls 16 (26, .iload_n 1, 1) rfl) rfl rfl ?_
    refine mx_bipush (pc := 27) (v := (46 : Int32)) (mx_dd dd_X12_calls 17 (27, .bipush 46, 2) rfl) (by decide) ?_
    obtain ⟨g3, P⟩ := P
    refine mx_cVI (pc := 29) (Y := mY_X12_of) (As := [.int _, .int _]) mx_ml_X12_416 mx_y_X12_of rfl g3 (by decide) rfl (by simp [Value.category]) rfl (mx_dd dd_X12_calls 18 (29, .invokevirtual 416, 3) rfl) g1 (by decide) P (fun v2 h2 P => ?_)
    refine mx_iconst (pc := 32) (v := (1 : Int32)) (mx_dd dd_X12_calls 19 (32, .iconst 1, 1) rfl) (by decide) ?_
    refine mx_iadd (pc := 33) (mx_dd dd_X12_calls 20 (33, .iadd, 1) rfl) ?_
    obtain ⟨g4, P⟩ := P
    refine mx_cVV (pc := 34) (Y := mY_X12_sets) (As := [.int _, .int _, .int _]) mx_ml_X12_419 mx_y_X12_sets rfl g4 (by decide) rfl (by decide) rfl (mx_dd dd_X12_calls 21 (34, .invokevirtual 419, 3) rfl) g1 (by decide) P (fun h3 P => ?_)
    refine mx_aload_n (pc := 37) 0 (mx_dd dd_X12_calls 22 (37, .aload_n 0, 1) rfl) rfl rfl ?_
    refine mx_iload_n (pc := 38) 1 (mx_dd dd_X12_calls 23 (38, .iload_n 1, 1) rfl) rfl rfl ?_
    refine mx_iload_n (pc := 39) 2 (mx_dd dd_X12_calls 24 (39, .iload_n 2, 1) rfl) rfl rfl ?_
    obtain ⟨g5, P⟩ := P
    refine mx_cVV (pc := 40) (Y := mY_X12_runsScript) (As := [.int _, .int _]) mx_ml_X12_519 mx_y_X12_runsScript rfl g5 (by decide) rfl (by decide) rfl (mx_dd dd_X12_calls 25 (40, .invokevirtual 519, 3) rfl) g1 (by decide) P (fun h4 P => ?_)
    refine mx_aload_n (pc := 43) 0 (mx_dd dd_X12_calls 26 (43, .aload_n 0, 1) rfl) rfl rfl ?_
    refine mx_iload_n (pc := 44) 1 (mx_dd dd_X12_calls 27 (44, .iload_n 1, 1) rfl) rfl rfl ?_
    refine mx_bipush (pc := 45) (v := (46 : Int32)) (mx_dd dd_X12_calls 28 (45, .bipush 46, 2) rfl) (by decide) ?_
    refine mx_aload_n (pc := 47) 0 (mx_dd dd_X12_calls 29 (47, .aload_n 0, 1) rfl) rfl rfl ?_
    refine mx_iload_n (pc := 48) 1 (mx_dd dd_X12_calls 30 (48, .iload_n 1, 1) rfl) rfl rfl ?_
    refine mx_bipush (pc := 49) (v := (46 : Int32)) (mx_dd dd_X12_calls 31 (49, .bipush 46, 2) rfl) (by decide) ?_
    obtain ⟨g6, P⟩ := P
    refine mx_cVI (pc := 51) (Y := mY_X12_of) (As := [.int _, .int _]) mx_ml_X12_416 mx_y_X12_of rfl g6 (by decide) rfl (by simp [Value.category]) rfl (mx_dd dd_X12_calls 32 (51, .invokevirtual 416, 3) rfl) g1 (by decide) P (fun v3 h5 P => ?_)
    refine mx_iconst (pc := 54) (v := (1 : Int32)) (mx_dd dd_X12_calls 33 (54, .iconst 1, 1) rfl) (by decide) ?_
    refine mx_isub (pc := 55) (mx_dd dd_X12_calls 34 (55, .isub, 1) rfl) ?_
    obtain ⟨g7, P⟩ := P
    refine mx_cVV (pc := 56) (Y := mY_X12_sets) (As := [.int _, .int _, .int _]) mx_ml_X12_419 mx_y_X12_sets rfl g7 (by decide) rfl (by decide) rfl (mx_dd dd_X12_calls 35 (56, .invokevirtual 419, 3) rfl) g1 (by decide) P (fun h6 P => ?_)
    exact mx_return (pc := 59) (mx_dd dd_X12_calls 36 (59, .return_, 1) rfl) rfl P
  · have P := P.2 c8
    refine mx_aload_n (pc := 11) 0 (mx_dd dd_X12_calls 6 (11, .aload_n 0, 1) rfl) rfl rfl ?_
    refine mx_iload_n (pc := 12) 1 (mx_dd dd_X12_calls 7 (12, .iload_n 1, 1) rfl) rfl rfl ?_
    refine mx_bipush (pc := 13) (v := (33 : Int32)) (mx_dd dd_X12_calls 8 (13, .bipush 33, 2) rfl) (by decide) ?_
    refine mx_bipush (pc := 15) (v := (126 : Int32)) (mx_dd dd_X12_calls 9 (15, .bipush 126, 2) rfl) (by decide) ?_
    obtain ⟨g8, P⟩ := P
    refine mx_cVV (pc := 17) (Y := mY_X12_sets) (As := [.int _, .int _, .int _]) mx_ml_X12_419 mx_y_X12_sets rfl g8 (by decide) rfl (by decide) rfl (mx_dd dd_X12_calls 10 (17, .invokevirtual 419, 3) rfl) g1 (by decide) P (fun h7 P => ?_)
    exact mx_return (pc := 20) (mx_dd dd_X12_calls 11 (20, .return_, 1) rfl) rfl P
theorem b_X12_finishes {d : Nat} {h : mxH} {Q : mxRes → mxH → Prop} (x0 : Nat) (x1 : Int32)
    (P : 1 ≤ d ∧ hpK h x0 = 12 ∧ mx_SM mY_X12_of (d - 1) [.ref x0, .int x1, .int (47 : Int32)] h (mx_KI (fun v1 h1 => hpK h1 x0 = 12 ∧ mx_SM mY_X12_sets (d - 1) [.ref x0, .int x1, .int (46 : Int32), .int v1] h1 (mx_KV (fun h2 => hpK h2 x0 = 12 ∧ mx_SM mY_X12_sets (d - 1) [.ref x0, .int x1, .int (48 : Int32), .int (0 : Int32)] h2 (mx_KV (fun h3 => hpK h3 x0 = 12 ∧ mx_SM mY_X12_nameOf (d - 1) [.ref x0, .int x1, .int (33 : Int32)] h3 (mx_KL (fun v2 h4 => (((lg_cmp v2 (0 : Int64)) ≤ 0 → mx_SX mY_X12_finishes d 129 [(0, .ref x0), (1, .int x1)] [] h4 Q) ∧ (¬ (lg_cmp v2 (0 : Int64)) ≤ 0 → hpK h4 x0 = 12 ∧ mx_SM mY_X12_setsName (d - 1) [.ref x0, .int x1, .int (33 : Int32), .long (0 : Int64)] h4 (mx_KV (fun h5 => hpK h5 x0 = 12 ∧ mx_SM mY_X12_statusOf (d - 1) [.ref x0, .int x1] h5 (mx_KI (fun v3 h6 => hpK h6 x0 = 12 ∧ mx_SM mY_X12_functionOf (d - 1) [.ref x0, .int x1, .long v2] h6 (mx_KI (fun v4 h7 => ((v4 = (-1 : Int32) → mx_SX mY_X12_finishes d 80 [(0, .ref x0), (1, .int x1), (4, .int v3)] [] h7 Q) ∧ (¬ v4 = (-1 : Int32) → hpK h7 x0 = 12 ∧ mx_SM mY_X12_of (d - 1) [.ref x0, .int x1, .int ((22 : Int32) + v4)] h7 (mx_KI (fun v5 h8 => hpK h8 x0 = 12 ∧ mx_SM mY_X12_calls (d - 1) [.ref x0, .int x1, .int v5] h8 (mx_KV (fun h9 => mx_SX mY_X12_finishes d 80 [(0, .ref x0), (1, .int x1), (4, .int v3)] [] h9 Q) (mx_XX mY_X12_finishes Q))) (mx_XX mY_X12_finishes Q))))) (mx_XX mY_X12_finishes Q))) (mx_XX mY_X12_finishes Q))) (mx_XX mY_X12_finishes Q))))) (mx_XX mY_X12_finishes Q))) (mx_XX mY_X12_finishes Q))) (mx_XX mY_X12_finishes Q))) (mx_XX mY_X12_finishes Q))) : mx_SM mY_X12_finishes d [.ref x0, .int x1] h Q := by
  refine mx_SM_of (by decide) (Nat.le_of_ble_eq_true rfl) ?_
  show mx_SX mY_X12_finishes d 0 [(0, .ref x0), (1, .int x1)] [] h Q
  refine mx_aload_n (pc := 0) 0 (mx_dd dd_X12_finishes_0 0 (0, .aload_n 0, 1) rfl) rfl rfl ?_
  refine mx_iload_n (pc := 1) 1 (mx_dd dd_X12_finishes_0 1 (1, .iload_n 1, 1) rfl) rfl rfl ?_
  refine mx_bipush (pc := 2) (v := (46 : Int32)) (mx_dd dd_X12_finishes_0 2 (2, .bipush 46, 2) rfl) (by decide) ?_
  refine mx_aload_n (pc := 4) 0 (mx_dd dd_X12_finishes_0 3 (4, .aload_n 0, 1) rfl) rfl rfl ?_
  refine mx_iload_n (pc := 5) 1 (mx_dd dd_X12_finishes_0 4 (5, .iload_n 1, 1) rfl) rfl rfl ?_
  refine mx_bipush (pc := 6) (v := (47 : Int32)) (mx_dd dd_X12_finishes_0 5 (6, .bipush 47, 2) rfl) (by decide) ?_
  obtain ⟨g1, P⟩ := P
  obtain ⟨g2, P⟩ := P
  refine mx_cVI (pc := 8) (Y := mY_X12_of) (As := [.int _, .int _]) mx_ml_X12_416 mx_y_X12_of rfl g2 (by decide) rfl (by simp [Value.category]) rfl (mx_dd dd_X12_finishes_0 6 (8, .invokevirtual 416, 3) rfl) g1 (by decide) P (fun v1 h1 P => ?_)
  obtain ⟨g3, P⟩ := P
  refine mx_cVV (pc := 11) (Y := mY_X12_sets) (As := [.int _, .int _, .int _]) mx_ml_X12_419 mx_y_X12_sets rfl g3 (by decide) rfl (by decide) rfl (mx_dd dd_X12_finishes_0 7 (11, .invokevirtual 419, 3) rfl) g1 (by decide) P (fun h2 P => ?_)
  refine mx_aload_n (pc := 14) 0 (mx_dd dd_X12_finishes_0 8 (14, .aload_n 0, 1) rfl) rfl rfl ?_
  refine mx_iload_n (pc := 15) 1 (mx_dd dd_X12_finishes_0 9 (15, .iload_n 1, 1) rfl) rfl rfl ?_
  refine mx_bipush (pc := 16) (v := (48 : Int32)) (mx_dd dd_X12_finishes_0 10 (16, .bipush 48, 2) rfl) (by decide) ?_
  refine mx_iconst (pc := 18) (v := (0 : Int32)) (mx_dd dd_X12_finishes_0 11 (18, .iconst 0, 1) rfl) (by decide) ?_
  obtain ⟨g4, P⟩ := P
  refine mx_cVV (pc := 19) (Y := mY_X12_sets) (As := [.int _, .int _, .int _]) mx_ml_X12_419 mx_y_X12_sets rfl g4 (by decide) rfl (by decide) rfl (mx_dd dd_X12_finishes_0 12 (19, .invokevirtual 419, 3) rfl) g1 (by decide) P (fun h3 P => ?_)
  refine mx_aload_n (pc := 22) 0 (mx_dd dd_X12_finishes_0 13 (22, .aload_n 0, 1) rfl) rfl rfl ?_
  refine mx_iload_n (pc := 23) 1 (mx_dd dd_X12_finishes_0 14 (23, .iload_n 1, 1) rfl) rfl rfl ?_
  refine mx_bipush (pc := 24) (v := (33 : Int32)) (mx_dd dd_X12_finishes_0 15 (24, .bipush 33, 2) rfl) (by decide) ?_
  obtain ⟨g5, P⟩ := P
  refine mx_cVL (pc := 26) (Y := mY_X12_nameOf) (As := [.int _, .int _]) mx_ml_X12_423 mx_y_X12_nameOf rfl g5 (by decide) rfl (by decide) rfl (mx_dd dd_X12_finishes_0 16 (26, .invokevirtual 423, 3) rfl) g1 (by decide) P (fun v2 h4 P => ?_)
  refine mx_lstore_n (pc := 29) (mx_dd dd_X12_finishes_0 17 (29, .lstore_n 2, 1) rfl) rfl (by decide) (lv' := [(2, _), (0, _), (1, _)]) rfl ?_
  refine mx_lload_n (pc := 30) 0 (mx_dd dd_X12_finishes_0 18 (30, .lload_n 2, 1) rfl) rfl rfl ?_
  refine mx_lconst (pc := 31) (v := (0 : Int64)) (mx_dd dd_X12_finishes_0 19 (31, .lconst 0, 1) rfl) (by decide) ?_
  refine mx_lcmp (pc := 32) (mx_dd dd_X12_finishes_0 20 (32, .lcmp, 1) rfl) ?_
  refine mx_if_le (pc := 33) 129 (mx_dd dd_X12_finishes_0 21 (33, .ifCond .le 96, 3) rfl) rfl (fun c33 => ?_) (fun c33 => ?_)
  · have P := P.1 c33
    refine mx_sel [1, 2] rfl ?_
    exact P
  · have P := P.2 c33
    refine mx_aload_n (pc := 36) 1 (mx_dd dd_X12_finishes_0 22 (36, .aload_n 0, 1) rfl) rfl rfl ?_
    refine mx_iload_n (pc := 37) 2 (mx_dd dd_X12_finishes_0 23 (37, .iload_n 1, 1) rfl) rfl rfl ?_
    refine mx_bipush (pc := 38) (v := (33 : Int32)) (mx_dd dd_X12_finishes_0 24 (38, .bipush 33, 2) rfl) (by decide) ?_
    refine mx_lconst (pc := 40) (v := (0 : Int64)) (mx_dd dd_X12_finishes_0 25 (40, .lconst 0, 1) rfl) (by decide) ?_
    obtain ⟨g6, P⟩ := P
    refine mx_cVV (pc := 41) (Y := mY_X12_setsName) (As := [.int _, .int _, .long _]) mx_ml_X12_427 mx_y_X12_setsName rfl g6 (by decide) rfl (by decide) rfl (mx_dd dd_X12_finishes_0 26 (41, .invokevirtual 427, 3) rfl) g1 (by decide) P (fun h5 P => ?_)
    refine mx_aload_n (pc := 44) 1 (mx_dd dd_X12_finishes_0 27 (44, .aload_n 0, 1) rfl) rfl rfl ?_
    refine mx_iload_n (pc := 45) 2 (mx_dd dd_X12_finishes_0 28 (45, .iload_n 1, 1) rfl) rfl rfl ?_
    obtain ⟨g7, P⟩ := P
    refine mx_cVI (pc := 46) (Y := mY_X12_statusOf) (As := [.int _]) mx_ml_X12_477 mx_y_X12_statusOf rfl g7 (by decide) rfl (by decide) rfl (mx_dd dd_X12_finishes_0 29 (46, .invokevirtual 477, 3) rfl) g1 (by decide) P (fun v3 h6 P => ?_)
    refine mx_istore (pc := 49) (mx_dd dd_X12_finishes_0 30 (49, .istore 4, 2) rfl) (by decide) (lv' := [(4, _), (2, _), (0, _), (1, _)]) rfl ?_
    refine mx_aload_n (pc := 51) 2 (mx_dd dd_X12_finishes_0 31 (51, .aload_n 0, 1) rfl) rfl rfl ?_
    refine mx_iload_n (pc := 52) 3 (mx_dd dd_X12_finishes_0 32 (52, .iload_n 1, 1) rfl) rfl rfl ?_
    refine mx_lload_n (pc := 53) 1 (mx_dd dd_X12_finishes_0 33 (53, .lload_n 2, 1) rfl) rfl rfl ?_
    obtain ⟨g8, P⟩ := P
    refine mx_cVI (pc := 54) (Y := mY_X12_functionOf) (As := [.int _, .long _]) mx_ml_X12_534 mx_y_X12_functionOf rfl g8 (by decide) rfl (by decide) rfl (mx_dd dd_X12_finishes_0 34 (54, .invokevirtual 534, 3) rfl) g1 (by decide) P (fun v4 h7 P => ?_)
    refine mx_istore (pc := 57) (mx_dd dd_X12_finishes_0 35 (57, .istore 5, 2) rfl) (by decide) (lv' := [(5, _), (4, _), (2, _), (0, _), (1, _)]) rfl ?_
    refine mx_iload (pc := 59) 0 (mx_dd dd_X12_finishes_0 36 (59, .iload 5, 2) rfl) rfl ?_
    refine mx_iconst (pc := 61) (v := (-1 : Int32)) (mx_dd dd_X12_finishes_0 37 (61, .iconst (-1), 1) rfl) (by decide) ?_
    refine mx_icmp_eq (pc := 62) 80 (mx_dd dd_X12_finishes_0 38 (62, .if_icmp .eq 18, 3) rfl) rfl (fun c62 => ?_) (fun c62 => ?_)
    · have P := P.1 c62
      refine mx_sel [3, 4, 1] rfl ?_
      exact P
    · have P := P.2 c62
      refine mx_aload_n (pc := 65) 3 (mx_dd dd_X12_finishes_0 39 (65, .aload_n 0, 1) rfl) rfl rfl ?_
      refine mx_iload_n (pc := 66) 4 (mx_dd dd_X12_finishes_1 0 (66, .iload_n 1, 1) rfl) rfl rfl ?_
      refine mx_aload_n (pc := 67) 3 (mx_dd dd_X12_finishes_1 1 (67, .aload_n 0, 1) rfl) rfl rfl ?_
      refine mx_iload_n (pc := 68) 4 (mx_dd dd_X12_finishes_1 2 (68, .iload_n 1, 1) rfl) rfl rfl ?_
      refine mx_bipush (pc := 69) (v := (22 : Int32)) (mx_dd dd_X12_finishes_1 3 (69, .bipush 22, 2) rfl) (by decide) ?_
      refine mx_iload (pc := 71) 0 (mx_dd dd_X12_finishes_1 4 (71, .iload 5, 2) rfl) rfl ?_
      refine mx_iadd (pc := 73) (mx_dd dd_X12_finishes_1 5 (73, .iadd, 1) rfl) ?_
      obtain ⟨g9, P⟩ := P
      refine mx_cVI (pc := 74) (Y := mY_X12_of) (As := [.int _, .int _]) mx_ml_X12_416 mx_y_X12_of rfl g9 (by decide) rfl (by simp [Value.category]) rfl (mx_dd dd_X12_finishes_1 6 (74, .invokevirtual 416, 3) rfl) g1 (by decide) P (fun v5 h8 P => ?_)
      obtain ⟨g10, P⟩ := P
      refine mx_cVV (pc := 77) (Y := mY_X12_calls) (As := [.int _, .int _]) mx_ml_X12_537 mx_y_X12_calls rfl g10 (by decide) rfl (by decide) rfl (mx_dd dd_X12_finishes_1 7 (77, .invokevirtual 537, 3) rfl) g1 (by decide) P (fun h9 P => ?_)
      refine mx_sel [3, 4, 1] rfl ?_
      exact P
theorem b_X12_finishes_80 {d : Nat} {h : mxH} {Q : mxRes → mxH → Prop} (x0 : Nat) (x1 : Int32) (x4 : Int32)
    (P : 1 ≤ d ∧ hpK h x0 = 12 ∧ mx_SM mY_X12_isStoppedNow (d - 1) [.ref x0] h (mx_KI (fun v1 h1 => ((v1 = 0 → hpK h1 x0 = 12 ∧ mx_SM mY_X12_of (d - 1) [.ref x0, .int x1, .int (48 : Int32)] h1 (mx_KI (fun v2 h2 => ((¬ v2 = 0 → mx_SX mY_X12_finishes d 107 [(0, .ref x0), (1, .int x1)] [] h2 Q) ∧ (v2 = 0 → hpK h2 x0 = 12 ∧ mx_SM mY_X12_sets (d - 1) [.ref x0, .int x1, .int (33 : Int32), .int x4] h2 (mx_KV (fun h3 => mx_SX mY_X12_finishes d 107 [(0, .ref x0), (1, .int x1)] [] h3 Q) (mx_XX mY_X12_finishes Q))))) (mx_XX mY_X12_finishes Q))) ∧ (¬ v1 = 0 → Q (.inl none) h1))) (mx_XX mY_X12_finishes Q))) : mx_SX mY_X12_finishes d 80 [(0, .ref x0), (1, .int x1), (4, .int x4)] [] h Q := by
  refine mx_aload_n (pc := 80) 0 (mx_dd dd_X12_finishes_1 8 (80, .aload_n 0, 1) rfl) rfl rfl ?_
  obtain ⟨g1, P⟩ := P
  obtain ⟨g2, P⟩ := P
  refine mx_cVI (pc := 81) (Y := mY_X12_isStoppedNow) (As := []) mx_ml_X12_465 mx_y_X12_isStoppedNow rfl g2 (by decide) rfl (by decide) rfl (mx_dd dd_X12_finishes_1 9 (81, .invokevirtual 465, 3) rfl) g1 (by decide) P (fun v1 h1 P => ?_)
  refine mx_if_eq (pc := 84) 88 (mx_dd dd_X12_finishes_1 10 (84, .ifCond .eq 4, 3) rfl) rfl (fun c84 => ?_) (fun c84 => ?_)
  · have P := P.1 c84
    refine mx_aload_n (pc := 88) 0 (mx_dd dd_X12_finishes_1 12 (88, .aload_n 0, 1) rfl) rfl rfl ?_
    refine mx_iload_n (pc := 89) 1 (mx_dd dd_X12_finishes_1 13 (89, .iload_n 1, 1) rfl) rfl rfl ?_
    refine mx_bipush (pc := 90) (v := (48 : Int32)) (mx_dd dd_X12_finishes_1 14 (90, .bipush 48, 2) rfl) (by decide) ?_
    obtain ⟨g3, P⟩ := P
    refine mx_cVI (pc := 92) (Y := mY_X12_of) (As := [.int _, .int _]) mx_ml_X12_416 mx_y_X12_of rfl g3 (by decide) rfl (by decide) rfl (mx_dd dd_X12_finishes_1 15 (92, .invokevirtual 416, 3) rfl) g1 (by decide) P (fun v2 h2 P => ?_)
    refine mx_if_ne (pc := 95) 107 (mx_dd dd_X12_finishes_1 16 (95, .ifCond .ne 12, 3) rfl) rfl (fun c95 => ?_) (fun c95 => ?_)
    · have P := P.1 c95
      refine mx_sel [0, 1] rfl ?_
      exact P
    · have P := P.2 c95
      refine mx_aload_n (pc := 98) 0 (mx_dd dd_X12_finishes_1 17 (98, .aload_n 0, 1) rfl) rfl rfl ?_
      refine mx_iload_n (pc := 99) 1 (mx_dd dd_X12_finishes_1 18 (99, .iload_n 1, 1) rfl) rfl rfl ?_
      refine mx_bipush (pc := 100) (v := (33 : Int32)) (mx_dd dd_X12_finishes_1 19 (100, .bipush 33, 2) rfl) (by decide) ?_
      refine mx_iload (pc := 102) 2 (mx_dd dd_X12_finishes_1 20 (102, .iload 4, 2) rfl) rfl ?_
      obtain ⟨g4, P⟩ := P
      refine mx_cVV (pc := 104) (Y := mY_X12_sets) (As := [.int _, .int _, .int _]) mx_ml_X12_419 mx_y_X12_sets rfl g4 (by decide) rfl (by decide) rfl (mx_dd dd_X12_finishes_1 21 (104, .invokevirtual 419, 3) rfl) g1 (by decide) P (fun h3 P => ?_)
      refine mx_sel [0, 1] rfl ?_
      exact P
  · have P := P.2 c84
    exact mx_return (pc := 87) (mx_dd dd_X12_finishes_1 11 (87, .return_, 1) rfl) rfl P
theorem b_X12_finishes_107 {d : Nat} {h : mxH} {Q : mxRes → mxH → Prop} (x0 : Nat) (x1 : Int32)
    (P : 1 ≤ d ∧ hpK h x0 = 12 ∧ mx_SM mY_X12_of (d - 1) [.ref x0, .int x1, .int (47 : Int32)] h (mx_KI (fun v1 h1 => hpK h1 x0 = 12 ∧ mx_SM mY_X12_sets (d - 1) [.ref x0, .int x1, .int (46 : Int32), .int v1] h1 (mx_KV (fun h2 => hpK h2 x0 = 12 ∧ mx_SM mY_X12_sets (d - 1) [.ref x0, .int x1, .int (48 : Int32), .int (0 : Int32)] h2 (mx_KV (fun h3 => mx_SX mY_X12_finishes d 129 [(0, .ref x0), (1, .int x1)] [] h3 Q) (mx_XX mY_X12_finishes Q))) (mx_XX mY_X12_finishes Q))) (mx_XX mY_X12_finishes Q))) : mx_SX mY_X12_finishes d 107 [(0, .ref x0), (1, .int x1)] [] h Q := by
  refine mx_aload_n (pc := 107) 0 (mx_dd dd_X12_finishes_1 22 (107, .aload_n 0, 1) rfl) rfl rfl ?_
  refine mx_iload_n (pc := 108) 1 (mx_dd dd_X12_finishes_1 23 (108, .iload_n 1, 1) rfl) rfl rfl ?_
  refine mx_bipush (pc := 109) (v := (46 : Int32)) (mx_dd dd_X12_finishes_1 24 (109, .bipush 46, 2) rfl) (by decide) ?_
  refine mx_aload_n (pc := 111) 0 (mx_dd dd_X12_finishes_1 25 (111, .aload_n 0, 1) rfl) rfl rfl ?_
  refine mx_iload_n (pc := 112) 1 (mx_dd dd_X12_finishes_1 26 (112, .iload_n 1, 1) rfl) rfl rfl ?_
  refine mx_bipush (pc := 113) (v := (47 : Int32)) (mx_dd dd_X12_finishes_1 27 (113, .bipush 47, 2) rfl) (by decide) ?_
  obtain ⟨g1, P⟩ := P
  obtain ⟨g2, P⟩ := P
  refine mx_cVI (pc := 115) (Y := mY_X12_of) (As := [.int _, .int _]) mx_ml_X12_416 mx_y_X12_of rfl g2 (by decide) rfl (by simp [Value.category]) rfl (mx_dd dd_X12_finishes_1 28 (115, .invokevirtual 416, 3) rfl) g1 (by decide) P (fun v1 h1 P => ?_)
  obtain ⟨g3, P⟩ := P
  refine mx_cVV (pc := 118) (Y := mY_X12_sets) (As := [.int _, .int _, .int _]) mx_ml_X12_419 mx_y_X12_sets rfl g3 (by decide) rfl (by decide) rfl (mx_dd dd_X12_finishes_1 29 (118, .invokevirtual 419, 3) rfl) g1 (by decide) P (fun h2 P => ?_)
  refine mx_aload_n (pc := 121) 0 (mx_dd dd_X12_finishes_1 30 (121, .aload_n 0, 1) rfl) rfl rfl ?_
  refine mx_iload_n (pc := 122) 1 (mx_dd dd_X12_finishes_1 31 (122, .iload_n 1, 1) rfl) rfl rfl ?_
  refine mx_bipush (pc := 123) (v := (48 : Int32)) (mx_dd dd_X12_finishes_1 32 (123, .bipush 48, 2) rfl) (by decide) ?_
  refine mx_iconst (pc := 125) (v := (0 : Int32)) (mx_dd dd_X12_finishes_1 33 (125, .iconst 0, 1) rfl) (by decide) ?_
  obtain ⟨g4, P⟩ := P
  refine mx_cVV (pc := 126) (Y := mY_X12_sets) (As := [.int _, .int _, .int _]) mx_ml_X12_419 mx_y_X12_sets rfl g4 (by decide) rfl (by decide) rfl (mx_dd dd_X12_finishes_1 34 (126, .invokevirtual 419, 3) rfl) g1 (by decide) P (fun h3 P => ?_)
  exact P
theorem b_X12_finishes_129 {d : Nat} {h : mxH} {Q : mxRes → mxH → Prop} (x0 : Nat) (x1 : Int32)
    (P : 1 ≤ d ∧ hpK h x0 = 12 ∧ mx_SM mY_X12_runsJobs (d - 1) [.ref x0, .int x1] h (mx_KV (fun h1 => Q (.inl none) h1) (mx_XX mY_X12_finishes Q))) : mx_SX mY_X12_finishes d 129 [(0, .ref x0), (1, .int x1)] [] h Q := by
  refine mx_aload_n (pc := 129) 0 (mx_dd dd_X12_finishes_1 35 (129, .aload_n 0, 1) rfl) rfl rfl ?_
  refine mx_iload_n (pc := 130) 1 (mx_dd dd_X12_finishes_1 36 (130, .iload_n 1, 1) rfl) rfl rfl ?_
  obtain ⟨g1, P⟩ := P
  obtain ⟨g2, P⟩ := P
  refine mx_cVV (pc := 131) (Y := mY_X12_runsJobs) (As := [.int _]) mx_ml_X12_540 mx_y_X12_runsJobs rfl g2 (by decide) rfl (by decide) rfl (mx_dd dd_X12_finishes_1 37 (131, .invokevirtual 540, 3) rfl) g1 (by decide) P (fun h1 P => ?_)
  exact mx_return (pc := 134) (mx_dd dd_X12_finishes_1 38 (134, .return_, 1) rfl) rfl P
theorem b_X12_runsJobs {d : Nat} {h : mxH} {Q : mxRes → mxH → Prop} (x0 : Nat) (x1 : Int32)
    (P : mx_SX mY_X12_runsJobs d 2 [(0, .ref x0), (1, .int x1), (2, .int (0 : Int32))] [] h Q) : mx_SM mY_X12_runsJobs d [.ref x0, .int x1] h Q := by
  refine mx_SM_of (by decide) (Nat.le_of_ble_eq_true rfl) ?_
  show mx_SX mY_X12_runsJobs d 0 [(0, .ref x0), (1, .int x1)] [] h Q
  refine mx_iconst (pc := 0) (v := (0 : Int32)) (mx_dd dd_X12_runsJobs 0 (0, .iconst 0, 1) rfl) (by decide) ?_
  refine mx_istore_n (pc := 1) (mx_dd dd_X12_runsJobs 1 (1, .istore_n 2, 1) rfl) rfl (by decide) (lv' := [(2, _), (0, _), (1, _)]) rfl ?_
  refine mx_sel [1, 2, 0] rfl ?_
  exact P
theorem b_X12_runsJobs_2 {d : Nat} {h : mxH} {Q : mxRes → mxH → Prop} (x0 : Nat) (x1 : Int32) (x2 : Int32)
    (P : 1 ≤ d ∧ hpK h x0 = 12 ∧ mx_SM mY_X12_of (d - 1) [.ref x0, .int x1, .int (49 : Int32)] h (mx_KI (fun v1 h1 => ((v1 ≤ x2 → Q (.inl none) h1) ∧ (¬ v1 ≤ x2 → hpK h1 x0 = 12 ∧ mx_SM mY_X12_isStoppedNow (d - 1) [.ref x0] h1 (mx_KI (fun v2 h2 => ((¬ v2 = 0 → Q (.inl none) h2) ∧ (v2 = 0 → hpK h2 x0 = 12 ∧ mx_SM mY_X12_of (d - 1) [.ref x0, .int x1, .int ((50 : Int32) + ((4 : Int32) * x2))] h2 (mx_KI (fun v3 h3 => ((¬ v3 = 0 → mx_SX mY_X12_runsJobs d 41 [(0, .ref x0), (1, .int x1), (2, .int x2)] [] h3 Q) ∧ (v3 = 0 → hpK h3 x0 = 12 ∧ mx_SM mY_X12_runsJob (d - 1) [.ref x0, .int x1, .int x2, .int (1 : Int32)] h3 (mx_KV (fun h4 => mx_SX mY_X12_runsJobs d 41 [(0, .ref x0), (1, .int x1), (2, .int x2)] [] h4 Q) (mx_XX mY_X12_runsJobs Q))))) (mx_XX mY_X12_runsJobs Q))))) (mx_XX mY_X12_runsJobs Q))))) (mx_XX mY_X12_runsJobs Q))) : mx_SX mY_X12_runsJobs d 2 [(0, .ref x0), (1, .int x1), (2, .int x2)] [] h Q := by
  refine mx_iload_n (pc := 2) 2 (mx_dd dd_X12_runsJobs 2 (2, .iload_n 2, 1) rfl) rfl rfl ?_
  refine mx_aload_n (pc := 3) 0 (mx_dd dd_X12_runsJobs 3 (3, .aload_n 0, 1) rfl) rfl rfl ?_
  refine mx_iload_n (pc := 4) 1 (mx_dd dd_X12_runsJobs 4 (4, .iload_n 1, 1) rfl) rfl rfl ?_
  refine mx_bipush (pc := 5) (v := (49 : Int32)) (mx_dd dd_X12_runsJobs 5 (5, .bipush 49, 2) rfl) (by decide) ?_
  obtain ⟨g1, P⟩ := P
  obtain ⟨g2, P⟩ := P
  refine mx_cVI (pc := 7) (Y := mY_X12_of) (As := [.int _, .int _]) mx_ml_X12_416 mx_y_X12_of rfl g2 (by decide) rfl (by simp [Value.category]) rfl (mx_dd dd_X12_runsJobs 6 (7, .invokevirtual 416, 3) rfl) g1 (by decide) P (fun v1 h1 P => ?_)
  refine mx_icmp_ge (pc := 10) 47 (mx_dd dd_X12_runsJobs 7 (10, .if_icmp .ge 37, 3) rfl) rfl (fun c10 => ?_) (fun c10 => ?_)
  · have P := P.1 c10
    exact mx_return (pc := 47) (mx_dd dd_X12_runsJobs 27 (47, .return_, 1) rfl) rfl P
  · have P := P.2 c10
    refine mx_aload_n (pc := 13) 0 (mx_dd dd_X12_runsJobs 8 (13, .aload_n 0, 1) rfl) rfl rfl ?_
    obtain ⟨g3, P⟩ := P
    refine mx_cVI (pc := 14) (Y := mY_X12_isStoppedNow) (As := []) mx_ml_X12_465 mx_y_X12_isStoppedNow rfl g3 (by decide) rfl (by decide) rfl (mx_dd dd_X12_runsJobs 9 (14, .invokevirtual 465, 3) rfl) g1 (by decide) P (fun v2 h2 P => ?_)
    refine mx_if_ne (pc := 17) 47 (mx_dd dd_X12_runsJobs 10 (17, .ifCond .ne 30, 3) rfl) rfl (fun c17 => ?_) (fun c17 => ?_)
    · have P := P.1 c17
      exact mx_return (pc := 47) (mx_dd dd_X12_runsJobs 27 (47, .return_, 1) rfl) rfl P
    · have P := P.2 c17
      refine mx_aload_n (pc := 20) 0 (mx_dd dd_X12_runsJobs 11 (20, .aload_n 0, 1) rfl) rfl rfl ?_
      refine mx_iload_n (pc := 21) 1 (mx_dd dd_X12_runsJobs 12 (21, .iload_n 1, 1) rfl) rfl rfl ?_
      refine mx_bipush (pc := 22) (v := (50 : Int32)) (mx_dd dd_X12_runsJobs 13 (22, .bipush 50, 2) rfl) (by decide) ?_
      refine mx_iconst (pc := 24) (v := (4 : Int32)) (mx_dd dd_X12_runsJobs 14 (24, .iconst 4, 1) rfl) (by decide) ?_
      refine mx_iload_n (pc := 25) 2 (mx_dd dd_X12_runsJobs 15 (25, .iload_n 2, 1) rfl) rfl rfl ?_
      refine mx_imul (pc := 26) (mx_dd dd_X12_runsJobs 16 (26, .imul, 1) rfl) ?_
      refine mx_iadd (pc := 27) (mx_dd dd_X12_runsJobs 17 (27, .iadd, 1) rfl) ?_
      obtain ⟨g4, P⟩ := P
      refine mx_cVI (pc := 28) (Y := mY_X12_of) (As := [.int _, .int _]) mx_ml_X12_416 mx_y_X12_of rfl g4 (by decide) rfl (by decide) rfl (mx_dd dd_X12_runsJobs 18 (28, .invokevirtual 416, 3) rfl) g1 (by decide) P (fun v3 h3 P => ?_)
      refine mx_if_ne (pc := 31) 41 (mx_dd dd_X12_runsJobs 19 (31, .ifCond .ne 10, 3) rfl) rfl (fun c31 => ?_) (fun c31 => ?_)
      · have P := P.1 c31
        exact P
      · have P := P.2 c31
        refine mx_aload_n (pc := 34) 0 (mx_dd dd_X12_runsJobs 20 (34, .aload_n 0, 1) rfl) rfl rfl ?_
        refine mx_iload_n (pc := 35) 1 (mx_dd dd_X12_runsJobs 21 (35, .iload_n 1, 1) rfl) rfl rfl ?_
        refine mx_iload_n (pc := 36) 2 (mx_dd dd_X12_runsJobs 22 (36, .iload_n 2, 1) rfl) rfl rfl ?_
        refine mx_iconst (pc := 37) (v := (1 : Int32)) (mx_dd dd_X12_runsJobs 23 (37, .iconst 1, 1) rfl) (by decide) ?_
        obtain ⟨g5, P⟩ := P
        refine mx_cVV (pc := 38) (Y := mY_X12_runsJob) (As := [.int _, .int _, .int _]) mx_ml_X12_543 mx_y_X12_runsJob rfl g5 (by decide) rfl (by decide) rfl (mx_dd dd_X12_runsJobs 24 (38, .invokevirtual 543, 3) rfl) g1 (by decide) P (fun h4 P => ?_)
        exact P
theorem b_X12_runsJobs_41 {d : Nat} {h : mxH} {Q : mxRes → mxH → Prop} (x0 : Nat) (x1 : Int32) (x2 : Int32)
    (P : mx_SX mY_X12_runsJobs d 2 [(0, .ref x0), (1, .int x1), (2, .int (x2 + (1 : Int32)))] [] h Q) : mx_SX mY_X12_runsJobs d 41 [(0, .ref x0), (1, .int x1), (2, .int x2)] [] h Q := by
  refine mx_iinc (pc := 41) 2 (mx_dd dd_X12_runsJobs 25 (41, .iinc 2 1, 3) rfl) rfl (mx_kadd (by decide : Int32.ofInt 1 = (1 : Int32))) (by decide) (lv' := [(2, _), (0, _), (1, _)]) rfl ?_
  refine mx_goto (pc := 44) 2 (mx_dd dd_X12_runsJobs 26 (44, .goto (-42), 3) rfl) rfl ?_
  refine mx_sel [1, 2, 0] rfl ?_
  exact P
theorem b_X12_runsJob {d : Nat} {h : mxH} {Q : mxRes → mxH → Prop} (x0 : Nat) (x1 : Int32) (x2 : Int32) (x3 : Int32)
    (P : 1 ≤ d ∧ hpK h x0 = 12 ∧ mx_SM mY_X12_sets (d - 1) [.ref x0, .int x1, .int ((50 : Int32) + ((4 : Int32) * x2)), .int (2 : Int32)] h (mx_KV (fun h1 => hpK h1 x0 = 12 ∧ mx_SM mY_X12_of (d - 1) [.ref x0, .int x1, .int (((50 : Int32) + ((4 : Int32) * x2)) + (3 : Int32))] h1 (mx_KI (fun v1 h2 => hpK h2 x0 = 12 ∧ mx_SM mY_X12_sets (d - 1) [.ref x0, .int v1, .int (35 : Int32), .int x3] h2 (mx_KV (fun h3 => hpK h3 x0 = 12 ∧ mx_SM mY_X12_of (d - 1) [.ref x0, .int x1, .int (((50 : Int32) + ((4 : Int32) * x2)) + (2 : Int32))] h3 (mx_KI (fun v2 h4 => hpK h4 x0 = 12 ∧ mx_SM mY_X12_runsChain (d - 1) [.ref x0, .int v1, .int v2] h4 (mx_KV (fun h5 => hpK h5 x0 = 12 ∧ mx_SM mY_X12_isStoppedNow (d - 1) [.ref x0] h5 (mx_KI (fun v3 h6 => ((¬ v3 = 0 → mx_SX mY_X12_runsJob d 64 [(0, .ref x0), (1, .int x1), (4, .int ((50 : Int32) + ((4 : Int32) * x2))), (5, .int v1)] [] h6 Q) ∧ (v3 = 0 → hpK h6 x0 = 12 ∧ mx_SM mY_X12_finishes (d - 1) [.ref x0, .int v1] h6 (mx_KV (fun h7 => mx_SX mY_X12_runsJob d 64 [(0, .ref x0), (1, .int x1), (4, .int ((50 : Int32) + ((4 : Int32) * x2))), (5, .int v1)] [] h7 Q) (mx_XX mY_X12_runsJob Q))))) (mx_XX mY_X12_runsJob Q))) (mx_XX mY_X12_runsJob Q))) (mx_XX mY_X12_runsJob Q))) (mx_XX mY_X12_runsJob Q))) (mx_XX mY_X12_runsJob Q))) (mx_XX mY_X12_runsJob Q))) : mx_SM mY_X12_runsJob d [.ref x0, .int x1, .int x2, .int x3] h Q := by
  refine mx_SM_of (by decide) (Nat.le_of_ble_eq_true rfl) ?_
  show mx_SX mY_X12_runsJob d 0 [(0, .ref x0), (1, .int x1), (2, .int x2), (3, .int x3)] [] h Q
  refine mx_bipush (pc := 0) (v := (50 : Int32)) (mx_dd dd_X12_runsJob_0 0 (0, .bipush 50, 2) rfl) (by decide) ?_
  refine mx_iconst (pc := 2) (v := (4 : Int32)) (mx_dd dd_X12_runsJob_0 1 (2, .iconst 4, 1) rfl) (by decide) ?_
  refine mx_iload_n (pc := 3) 2 (mx_dd dd_X12_runsJob_0 2 (3, .iload_n 2, 1) rfl) rfl rfl ?_
  refine mx_imul (pc := 4) (mx_dd dd_X12_runsJob_0 3 (4, .imul, 1) rfl) ?_
  refine mx_iadd (pc := 5) (mx_dd dd_X12_runsJob_0 4 (5, .iadd, 1) rfl) ?_
  refine mx_istore (pc := 6) (mx_dd dd_X12_runsJob_0 5 (6, .istore 4, 2) rfl) (by decide) (lv' := [(4, _), (0, _), (1, _), (2, _), (3, _)]) rfl ?_
  refine mx_aload_n (pc := 8) 1 (mx_dd dd_X12_runsJob_0 6 (8, .aload_n 0, 1) rfl) rfl rfl ?_
  refine mx_iload_n (pc := 9) 2 (mx_dd dd_X12_runsJob_0 7 (9, .iload_n 1, 1) rfl) rfl rfl ?_
  refine mx_iload (pc := 10) 0 (mx_dd dd_X12_runsJob_0 8 (10, .iload 4, 2) rfl) rfl ?_
  refine mx_iconst (pc := 12) (v := (2 : Int32)) (mx_dd dd_X12_runsJob_0 9 (12, .iconst 2, 1) rfl) (by decide) ?_
  obtain ⟨g1, P⟩ := P
  obtain ⟨g2, P⟩ := P
  refine mx_cVV (pc := 13) (Y := mY_X12_sets) (As := [.int _, .int _, .int _]) mx_ml_X12_419 mx_y_X12_sets rfl g2 (by decide) rfl (by decide) rfl (mx_dd dd_X12_runsJob_0 10 (13, .invokevirtual 419, 3) rfl) g1 (by decide) P (fun h1 P => ?_)
  refine mx_aload_n (pc := 16) 1 (mx_dd dd_X12_runsJob_0 11 (16, .aload_n 0, 1) rfl) rfl rfl ?_
  refine mx_iload_n (pc := 17) 2 (mx_dd dd_X12_runsJob_0 12 (17, .iload_n 1, 1) rfl) rfl rfl ?_
  refine mx_iload (pc := 18) 0 (mx_dd dd_X12_runsJob_0 13 (18, .iload 4, 2) rfl) rfl ?_
  refine mx_iconst (pc := 20) (v := (3 : Int32)) (mx_dd dd_X12_runsJob_0 14 (20, .iconst 3, 1) rfl) (by decide) ?_
  refine mx_iadd (pc := 21) (mx_dd dd_X12_runsJob_0 15 (21, .iadd, 1) rfl) ?_
  obtain ⟨g3, P⟩ := P
  refine mx_cVI (pc := 22) (Y := mY_X12_of) (As := [.int _, .int _]) mx_ml_X12_416 mx_y_X12_of rfl g3 (by decide) rfl (by decide) rfl (mx_dd dd_X12_runsJob_0 16 (22, .invokevirtual 416, 3) rfl) g1 (by decide) P (fun v1 h2 P => ?_)
  refine mx_istore (pc := 25) (mx_dd dd_X12_runsJob_0 17 (25, .istore 5, 2) rfl) (by decide) (lv' := [(5, _), (4, _), (0, _), (1, _), (2, _), (3, _)]) rfl ?_
  refine mx_aload_n (pc := 27) 2 (mx_dd dd_X12_runsJob_0 18 (27, .aload_n 0, 1) rfl) rfl rfl ?_
  refine mx_iload (pc := 28) 0 (mx_dd dd_X12_runsJob_0 19 (28, .iload 5, 2) rfl) rfl ?_
  refine mx_bipush (pc := 30) (v := (35 : Int32)) (mx_dd dd_X12_runsJob_0 20 (30, .bipush 35, 2) rfl) (by decide) ?_
  refine mx_iload_n (pc := 32) 5 (mx_dd dd_X12_runsJob_0 21 (32, .iload_n 3, 1) rfl) rfl rfl ?_
  obtain ⟨g4, P⟩ := P
  refine mx_cVV (pc := 33) (Y := mY_X12_sets) (As := [.int _, .int _, .int _]) mx_ml_X12_419 mx_y_X12_sets rfl g4 (by decide) rfl (by decide) rfl (mx_dd dd_X12_runsJob_0 22 (33, .invokevirtual 419, 3) rfl) g1 (by decide) P (fun h3 P => ?_)
  refine mx_aload_n (pc := 36) 2 (mx_dd dd_X12_runsJob_0 23 (36, .aload_n 0, 1) rfl) rfl rfl ?_
  refine mx_iload (pc := 37) 0 (mx_dd dd_X12_runsJob_0 24 (37, .iload 5, 2) rfl) rfl ?_
  refine mx_aload_n (pc := 39) 2 (mx_dd dd_X12_runsJob_0 25 (39, .aload_n 0, 1) rfl) rfl rfl ?_
  refine mx_iload_n (pc := 40) 3 (mx_dd dd_X12_runsJob_0 26 (40, .iload_n 1, 1) rfl) rfl rfl ?_
  refine mx_iload (pc := 41) 1 (mx_dd dd_X12_runsJob_0 27 (41, .iload 4, 2) rfl) rfl ?_
  refine mx_iconst (pc := 43) (v := (2 : Int32)) (mx_dd dd_X12_runsJob_0 28 (43, .iconst 2, 1) rfl) (by decide) ?_
  refine mx_iadd (pc := 44) (mx_dd dd_X12_runsJob_0 29 (44, .iadd, 1) rfl) ?_
  obtain ⟨g5, P⟩ := P
  refine mx_cVI (pc := 45) (Y := mY_X12_of) (As := [.int _, .int _]) mx_ml_X12_416 mx_y_X12_of rfl g5 (by decide) rfl (by simp [Value.category]) rfl (mx_dd dd_X12_runsJob_0 30 (45, .invokevirtual 416, 3) rfl) g1 (by decide) P (fun v2 h4 P => ?_)
  obtain ⟨g6, P⟩ := P
  refine mx_cVV (pc := 48) (Y := mY_X12_runsChain) (As := [.int _, .int _]) mx_ml_X12_474 mx_y_X12_runsChain rfl g6 (by decide) rfl (by decide) rfl (mx_dd dd_X12_runsJob_0 31 (48, .invokevirtual 474, 3) rfl) g1 (by decide) P (fun h5 P => ?_)
  refine mx_aload_n (pc := 51) 2 (mx_dd dd_X12_runsJob_0 32 (51, .aload_n 0, 1) rfl) rfl rfl ?_
  obtain ⟨g7, P⟩ := P
  refine mx_cVI (pc := 52) (Y := mY_X12_isStoppedNow) (As := []) mx_ml_X12_465 mx_y_X12_isStoppedNow rfl g7 (by decide) rfl (by decide) rfl (mx_dd dd_X12_runsJob_0 33 (52, .invokevirtual 465, 3) rfl) g1 (by decide) P (fun v3 h6 P => ?_)
  refine mx_if_ne (pc := 55) 64 (mx_dd dd_X12_runsJob_0 34 (55, .ifCond .ne 9, 3) rfl) rfl (fun c55 => ?_) (fun c55 => ?_)
  · have P := P.1 c55
    refine mx_sel [2, 3, 1, 0] rfl ?_
    exact P
  · have P := P.2 c55
    refine mx_aload_n (pc := 58) 2 (mx_dd dd_X12_runsJob_0 35 (58, .aload_n 0, 1) rfl) rfl rfl ?_
    refine mx_iload (pc := 59) 0 (mx_dd dd_X12_runsJob_0 36 (59, .iload 5, 2) rfl) rfl ?_
    obtain ⟨g8, P⟩ := P
    refine mx_cVV (pc := 61) (Y := mY_X12_finishes) (As := [.int _]) mx_ml_X12_495 mx_y_X12_finishes rfl g8 (by decide) rfl (by decide) rfl (mx_dd dd_X12_runsJob_0 37 (61, .invokevirtual 495, 3) rfl) g1 (by decide) P (fun h7 P => ?_)
    refine mx_sel [2, 3, 1, 0] rfl ?_
    exact P
theorem b_X12_runsJob_64 {d : Nat} {h : mxH} {Q : mxRes → mxH → Prop} (x0 : Nat) (x1 : Int32) (x4 : Int32) (x5 : Int32)
    (P : 1 ≤ d ∧ hpK h x0 = 12 ∧ mx_SM mY_X12_isStoppedNow (d - 1) [.ref x0] h (mx_KI (fun v1 h1 => ((¬ v1 = 0 → mx_SX mY_X12_runsJob d 94 [(0, .ref x0), (5, .int x5)] [] h1 Q) ∧ (v1 = 0 → hpK h1 x0 = 12 ∧ mx_SM mY_X12_sets (d - 1) [.ref x0, .int x1, .int x4, .int (1 : Int32)] h1 (mx_KV (fun h2 => hpK h2 x0 = 12 ∧ mx_SM mY_X12_statusOf (d - 1) [.ref x0, .int x5] h2 (mx_KI (fun v2 h3 => hpK h3 x0 = 12 ∧ mx_SM mY_X12_sets (d - 1) [.ref x0, .int x1, .int (x4 + (1 : Int32)), .int v2] h3 (mx_KV (fun h4 => mx_SX mY_X12_runsJob d 94 [(0, .ref x0), (5, .int x5)] [] h4 Q) (mx_XX mY_X12_runsJob Q))) (mx_XX mY_X12_runsJob Q))) (mx_XX mY_X12_runsJob Q))))) (mx_XX mY_X12_runsJob Q))) : mx_SX mY_X12_runsJob d 64 [(0, .ref x0), (1, .int x1), (4, .int x4), (5, .int x5)] [] h Q := by
  refine mx_aload_n (pc := 64) 0 (mx_dd dd_X12_runsJob_0 38 (64, .aload_n 0, 1) rfl) rfl rfl ?_
  obtain ⟨g1, P⟩ := P
  obtain ⟨g2, P⟩ := P
  refine mx_cVI (pc := 65) (Y := mY_X12_isStoppedNow) (As := []) mx_ml_X12_465 mx_y_X12_isStoppedNow rfl g2 (by decide) rfl (by decide) rfl (mx_dd dd_X12_runsJob_0 39 (65, .invokevirtual 465, 3) rfl) g1 (by decide) P (fun v1 h1 P => ?_)
  refine mx_if_ne (pc := 68) 94 (mx_dd dd_X12_runsJob_1 0 (68, .ifCond .ne 26, 3) rfl) rfl (fun c68 => ?_) (fun c68 => ?_)
  · have P := P.1 c68
    refine mx_sel [0, 3] rfl ?_
    exact P
  · have P := P.2 c68
    refine mx_aload_n (pc := 71) 0 (mx_dd dd_X12_runsJob_1 1 (71, .aload_n 0, 1) rfl) rfl rfl ?_
    refine mx_iload_n (pc := 72) 1 (mx_dd dd_X12_runsJob_1 2 (72, .iload_n 1, 1) rfl) rfl rfl ?_
    refine mx_iload (pc := 73) 2 (mx_dd dd_X12_runsJob_1 3 (73, .iload 4, 2) rfl) rfl ?_
    refine mx_iconst (pc := 75) (v := (1 : Int32)) (mx_dd dd_X12_runsJob_1 4 (75, .iconst 1, 1) rfl) (by decide) ?_
    obtain ⟨g3, P⟩ := P
    refine mx_cVV (pc := 76) (Y := mY_X12_sets) (As := [.int _, .int _, .int _]) mx_ml_X12_419 mx_y_X12_sets rfl g3 (by decide) rfl (by decide) rfl (mx_dd dd_X12_runsJob_1 5 (76, .invokevirtual 419, 3) rfl) g1 (by decide) P (fun h2 P => ?_)
    refine mx_aload_n (pc := 79) 0 (mx_dd dd_X12_runsJob_1 6 (79, .aload_n 0, 1) rfl) rfl rfl ?_
    refine mx_iload_n (pc := 80) 1 (mx_dd dd_X12_runsJob_1 7 (80, .iload_n 1, 1) rfl) rfl rfl ?_
    refine mx_iload (pc := 81) 2 (mx_dd dd_X12_runsJob_1 8 (81, .iload 4, 2) rfl) rfl ?_
    refine mx_iconst (pc := 83) (v := (1 : Int32)) (mx_dd dd_X12_runsJob_1 9 (83, .iconst 1, 1) rfl) (by decide) ?_
    refine mx_iadd (pc := 84) (mx_dd dd_X12_runsJob_1 10 (84, .iadd, 1) rfl) ?_
    refine mx_aload_n (pc := 85) 0 (mx_dd dd_X12_runsJob_1 11 (85, .aload_n 0, 1) rfl) rfl rfl ?_
    refine mx_iload (pc := 86) 3 (mx_dd dd_X12_runsJob_1 12 (86, .iload 5, 2) rfl) rfl ?_
    obtain ⟨g4, P⟩ := P
    refine mx_cVI (pc := 88) (Y := mY_X12_statusOf) (As := [.int _]) mx_ml_X12_477 mx_y_X12_statusOf rfl g4 (by decide) rfl (by simp [Value.category]) rfl (mx_dd dd_X12_runsJob_1 13 (88, .invokevirtual 477, 3) rfl) g1 (by decide) P (fun v2 h3 P => ?_)
    obtain ⟨g5, P⟩ := P
    refine mx_cVV (pc := 91) (Y := mY_X12_sets) (As := [.int _, .int _, .int _]) mx_ml_X12_419 mx_y_X12_sets rfl g5 (by decide) rfl (by decide) rfl (mx_dd dd_X12_runsJob_1 14 (91, .invokevirtual 419, 3) rfl) g1 (by decide) P (fun h4 P => ?_)
    refine mx_sel [0, 3] rfl ?_
    exact P
theorem b_X12_runsJob_94 {d : Nat} {h : mxH} {Q : mxRes → mxH → Prop} (x0 : Nat) (x5 : Int32)
    (P : 1 ≤ d ∧ hpK h x0 = 12 ∧ mx_SM mY_X12_sets (d - 1) [.ref x0, .int x5, .int (82 : Int32), .int (0 : Int32)] h (mx_KV (fun h1 => Q (.inl none) h1) (mx_XX mY_X12_runsJob Q))) : mx_SX mY_X12_runsJob d 94 [(0, .ref x0), (5, .int x5)] [] h Q := by
  refine mx_aload_n (pc := 94) 0 (mx_dd dd_X12_runsJob_1 15 (94, .aload_n 0, 1) rfl) rfl rfl ?_
  refine mx_iload (pc := 95) 1 (mx_dd dd_X12_runsJob_1 16 (95, .iload 5, 2) rfl) rfl ?_
  refine mx_bipush (pc := 97) (v := (82 : Int32)) (mx_dd dd_X12_runsJob_1 17 (97, .bipush 82, 2) rfl) (by decide) ?_
  refine mx_iconst (pc := 99) (v := (0 : Int32)) (mx_dd dd_X12_runsJob_1 18 (99, .iconst 0, 1) rfl) (by decide) ?_
  obtain ⟨g1, P⟩ := P
  obtain ⟨g2, P⟩ := P
  refine mx_cVV (pc := 100) (Y := mY_X12_sets) (As := [.int _, .int _, .int _]) mx_ml_X12_419 mx_y_X12_sets rfl g2 (by decide) rfl (by decide) rfl (mx_dd dd_X12_runsJob_1 19 (100, .invokevirtual 419, 3) rfl) g1 (by decide) P (fun h1 P => ?_)
  exact mx_return (pc := 103) (mx_dd dd_X12_runsJob_1 20 (103, .return_, 1) rfl) rfl P
theorem b_X12_makesJob {d : Nat} {h : mxH} {Q : mxRes → mxH → Prop} (x0 : Nat) (x1 : Int32) (x2 : Int32)
    (P : 1 ≤ d ∧ hpK h x0 = 12 ∧ mx_SM mY_X12_of (d - 1) [.ref x0, .int x1, .int (49 : Int32)] h (mx_KI (fun v1 h1 => ((¬ v1 = (8 : Int32) → hpK h1 x0 = 12 ∧ mx_SM mY_X12_fork (d - 1) [.ref x0, .int x1] h1 (mx_KI (fun v2 h2 => hpK h2 x0 = 12 ∧ mx_SM mY_X12_sets (d - 1) [.ref x0, .int x1, .int ((50 : Int32) + ((4 : Int32) * v1)), .int (0 : Int32)] h2 (mx_KV (fun h3 => hpK h3 x0 = 12 ∧ mx_SM mY_X12_sets (d - 1) [.ref x0, .int x1, .int (((50 : Int32) + ((4 : Int32) * v1)) + (1 : Int32)), .int (0 : Int32)] h3 (mx_KV (fun h4 => hpK h4 x0 = 12 ∧ mx_SM mY_X12_sets (d - 1) [.ref x0, .int x1, .int (((50 : Int32) + ((4 : Int32) * v1)) + (2 : Int32)), .int x2] h4 (mx_KV (fun h5 => hpK h5 x0 = 12 ∧ mx_SM mY_X12_sets (d - 1) [.ref x0, .int x1, .int (((50 : Int32) + ((4 : Int32) * v1)) + (3 : Int32)), .int v2] h5 (mx_KV (fun h6 => hpK h6 x0 = 12 ∧ mx_SM mY_X12_sets (d - 1) [.ref x0, .int x1, .int (49 : Int32), .int (v1 + (1 : Int32))] h6 (mx_KV (fun h7 => hpK h7 x0 = 12 ∧ mx_SM mY_X12_sets (d - 1) [.ref x0, .int x1, .int (33 : Int32), .int (0 : Int32)] h7 (mx_KV (fun h8 => Q (.inl none) h8) (mx_XX mY_X12_makesJob Q))) (mx_XX mY_X12_makesJob Q))) (mx_XX mY_X12_makesJob Q))) (mx_XX mY_X12_makesJob Q))) (mx_XX mY_X12_makesJob Q))) (mx_XX mY_X12_makesJob Q))) (mx_XX mY_X12_makesJob Q))) ∧ (v1 = (8 : Int32) → hpK h1 x0 = 12 ∧ mx_SM mY_X12_sets (d - 1) [.ref x0, .int x1, .int (33 : Int32), .int (1 : Int32)] h1 (mx_KV (fun h9 => Q (.inl none) h9) (mx_XX mY_X12_makesJob Q))))) (mx_XX mY_X12_makesJob Q))) : mx_SM mY_X12_makesJob d [.ref x0, .int x1, .int x2] h Q := by
  refine mx_SM_of (by decide) (Nat.le_of_ble_eq_true rfl) ?_
  show mx_SX mY_X12_makesJob d 0 [(0, .ref x0), (1, .int x1), (2, .int x2)] [] h Q
  refine mx_aload_n (pc := 0) 0 (mx_dd dd_X12_makesJob_0 0 (0, .aload_n 0, 1) rfl) rfl rfl ?_
  refine mx_iload_n (pc := 1) 1 (mx_dd dd_X12_makesJob_0 1 (1, .iload_n 1, 1) rfl) rfl rfl ?_
  refine mx_bipush (pc := 2) (v := (49 : Int32)) (mx_dd dd_X12_makesJob_0 2 (2, .bipush 49, 2) rfl) (by decide) ?_
  obtain ⟨g1, P⟩ := P
  obtain ⟨g2, P⟩ := P
  refine mx_cVI (pc := 4) (Y := mY_X12_of) (As := [.int _, .int _]) mx_ml_X12_416 mx_y_X12_of rfl g2 (by decide) rfl (by decide) rfl (mx_dd dd_X12_makesJob_0 3 (4, .invokevirtual 416, 3) rfl) g1 (by decide) P (fun v1 h1 P => ?_)
  refine mx_istore_n (pc := 7) (mx_dd dd_X12_makesJob_0 4 (7, .istore_n 3, 1) rfl) rfl (by decide) (lv' := [(3, _), (0, _), (1, _), (2, _)]) rfl ?_
  refine mx_iload_n (pc := 8) 0 (mx_dd dd_X12_makesJob_0 5 (8, .iload_n 3, 1) rfl) rfl rfl ?_
  refine mx_bipush (pc := 9) (v := (8 : Int32)) (mx_dd dd_X12_makesJob_0 6 (9, .bipush 8, 2) rfl) (by decide) ?_
  refine mx_icmp_ne (pc := 11) 23 (mx_dd dd_X12_makesJob_0 7 (11, .if_icmp .ne 12, 3) rfl) rfl (fun c11 => ?_) (fun c11 => ?_)
  · have P := P.1 c11
    refine mx_aload_n (pc := 23) 1 (mx_dd dd_X12_makesJob_0 14 (23, .aload_n 0, 1) rfl) rfl rfl ?_
    refine mx_iload_n (pc := 24) 2 (mx_dd dd_X12_makesJob_0 15 (24, .iload_n 1, 1) rfl) rfl rfl ?_
    obtain ⟨g3, P⟩ := P
    refine mx_cVI (pc := 25) (Y := mY_X12_fork) (As := [.int _]) mx_ml_X12_489 mx_y_X12_fork rfl g3 (by decide) rfl (by decide) rfl (mx_dd dd_X12_makesJob_0 16 (25, .invokevirtual 489, 3) rfl) g1 (by decide) P (fun v2 h2 P => ?_)
    refine mx_istore (pc := 28) (mx_dd dd_X12_makesJob_0 17 (28, .istore 4, 2) rfl) (by decide) (lv' := [(4, _), (3, _), (0, _), (1, _), (2, _)]) rfl ?_
    refine mx_aload_n (pc := 30) 2 (mx_dd dd_X12_makesJob_0 18 (30, .aload_n 0, 1) rfl) rfl rfl ?_
    refine mx_iload_n (pc := 31) 3 (mx_dd dd_X12_makesJob_0 19 (31, .iload_n 1, 1) rfl) rfl rfl ?_
    refine mx_bipush (pc := 32) (v := (50 : Int32)) (mx_dd dd_X12_makesJob_0 20 (32, .bipush 50, 2) rfl) (by decide) ?_
    refine mx_iconst (pc := 34) (v := (4 : Int32)) (mx_dd dd_X12_makesJob_0 21 (34, .iconst 4, 1) rfl) (by decide) ?_
    refine mx_iload_n (pc := 35) 1 (mx_dd dd_X12_makesJob_0 22 (35, .iload_n 3, 1) rfl) rfl rfl ?_
    refine mx_imul (pc := 36) (mx_dd dd_X12_makesJob_0 23 (36, .imul, 1) rfl) ?_
    refine mx_iadd (pc := 37) (mx_dd dd_X12_makesJob_0 24 (37, .iadd, 1) rfl) ?_
    refine mx_iconst (pc := 38) (v := (0 : Int32)) (mx_dd dd_X12_makesJob_0 25 (38, .iconst 0, 1) rfl) (by decide) ?_
    obtain ⟨g4, P⟩ := P
    refine mx_cVV (pc := 39) (Y := mY_X12_sets) (As := [.int _, .int _, .int _]) mx_ml_X12_419 mx_y_X12_sets rfl g4 (by decide) rfl (by decide) rfl (mx_dd dd_X12_makesJob_0 26 (39, .invokevirtual 419, 3) rfl) g1 (by decide) P (fun h3 P => ?_)
    refine mx_aload_n (pc := 42) 2 (mx_dd dd_X12_makesJob_0 27 (42, .aload_n 0, 1) rfl) rfl rfl ?_
    refine mx_iload_n (pc := 43) 3 (mx_dd dd_X12_makesJob_0 28 (43, .iload_n 1, 1) rfl) rfl rfl ?_
    refine mx_bipush (pc := 44) (v := (50 : Int32)) (mx_dd dd_X12_makesJob_0 29 (44, .bipush 50, 2) rfl) (by decide) ?_
    refine mx_iconst (pc := 46) (v := (4 : Int32)) (mx_dd dd_X12_makesJob_0 30 (46, .iconst 4, 1) rfl) (by decide) ?_
    refine mx_iload_n (pc := 47) 1 (mx_dd dd_X12_makesJob_0 31 (47, .iload_n 3, 1) rfl) rfl rfl ?_
    refine mx_imul (pc := 48) (mx_dd dd_X12_makesJob_0 32 (48, .imul, 1) rfl) ?_
    refine mx_iadd (pc := 49) (mx_dd dd_X12_makesJob_0 33 (49, .iadd, 1) rfl) ?_
    refine mx_iconst (pc := 50) (v := (1 : Int32)) (mx_dd dd_X12_makesJob_0 34 (50, .iconst 1, 1) rfl) (by decide) ?_
    refine mx_iadd (pc := 51) (mx_dd dd_X12_makesJob_0 35 (51, .iadd, 1) rfl) ?_
    refine mx_iconst (pc := 52) (v := (0 : Int32)) (mx_dd dd_X12_makesJob_0 36 (52, .iconst 0, 1) rfl) (by decide) ?_
    obtain ⟨g5, P⟩ := P
    refine mx_cVV (pc := 53) (Y := mY_X12_sets) (As := [.int _, .int _, .int _]) mx_ml_X12_419 mx_y_X12_sets rfl g5 (by decide) rfl (by decide) rfl (mx_dd dd_X12_makesJob_0 37 (53, .invokevirtual 419, 3) rfl) g1 (by decide) P (fun h4 P => ?_)
    refine mx_aload_n (pc := 56) 2 (mx_dd dd_X12_makesJob_0 38 (56, .aload_n 0, 1) rfl) rfl rfl ?_
    refine mx_iload_n (pc := 57) 3 (mx_dd dd_X12_makesJob_0 39 (57, .iload_n 1, 1) rfl) rfl rfl ?_
    refine mx_bipush (pc := 58) (v := (50 : Int32)) (mx_dd dd_X12_makesJob_1 0 (58, .bipush 50, 2) rfl) (by decide) ?_
    refine mx_iconst (pc := 60) (v := (4 : Int32)) (mx_dd dd_X12_makesJob_1 1 (60, .iconst 4, 1) rfl) (by decide) ?_
    refine mx_iload_n (pc := 61) 1 (mx_dd dd_X12_makesJob_1 2 (61, .iload_n 3, 1) rfl) rfl rfl ?_
    refine mx_imul (pc := 62) (mx_dd dd_X12_makesJob_1 3 (62, .imul, 1) rfl) ?_
    refine mx_iadd (pc := 63) (mx_dd dd_X12_makesJob_1 4 (63, .iadd, 1) rfl) ?_
    refine mx_iconst (pc := 64) (v := (2 : Int32)) (mx_dd dd_X12_makesJob_1 5 (64, .iconst 2, 1) rfl) (by decide) ?_
    refine mx_iadd (pc := 65) (mx_dd dd_X12_makesJob_1 6 (65, .iadd, 1) rfl) ?_
    refine mx_iload_n (pc := 66) 4 (mx_dd dd_X12_makesJob_1 7 (66, .iload_n 2, 1) rfl) rfl rfl ?_
    obtain ⟨g6, P⟩ := P
    refine mx_cVV (pc := 67) (Y := mY_X12_sets) (As := [.int _, .int _, .int _]) mx_ml_X12_419 mx_y_X12_sets rfl g6 (by decide) rfl (by decide) rfl (mx_dd dd_X12_makesJob_1 8 (67, .invokevirtual 419, 3) rfl) g1 (by decide) P (fun h5 P => ?_)
    refine mx_aload_n (pc := 70) 2 (mx_dd dd_X12_makesJob_1 9 (70, .aload_n 0, 1) rfl) rfl rfl ?_
    refine mx_iload_n (pc := 71) 3 (mx_dd dd_X12_makesJob_1 10 (71, .iload_n 1, 1) rfl) rfl rfl ?_
    refine mx_bipush (pc := 72) (v := (50 : Int32)) (mx_dd dd_X12_makesJob_1 11 (72, .bipush 50, 2) rfl) (by decide) ?_
    refine mx_iconst (pc := 74) (v := (4 : Int32)) (mx_dd dd_X12_makesJob_1 12 (74, .iconst 4, 1) rfl) (by decide) ?_
    refine mx_iload_n (pc := 75) 1 (mx_dd dd_X12_makesJob_1 13 (75, .iload_n 3, 1) rfl) rfl rfl ?_
    refine mx_imul (pc := 76) (mx_dd dd_X12_makesJob_1 14 (76, .imul, 1) rfl) ?_
    refine mx_iadd (pc := 77) (mx_dd dd_X12_makesJob_1 15 (77, .iadd, 1) rfl) ?_
    refine mx_iconst (pc := 78) (v := (3 : Int32)) (mx_dd dd_X12_makesJob_1 16 (78, .iconst 3, 1) rfl) (by decide) ?_
    refine mx_iadd (pc := 79) (mx_dd dd_X12_makesJob_1 17 (79, .iadd, 1) rfl) ?_
    refine mx_iload (pc := 80) 0 (mx_dd dd_X12_makesJob_1 18 (80, .iload 4, 2) rfl) rfl ?_
    obtain ⟨g7, P⟩ := P
    refine mx_cVV (pc := 82) (Y := mY_X12_sets) (As := [.int _, .int _, .int _]) mx_ml_X12_419 mx_y_X12_sets rfl g7 (by decide) rfl (by decide) rfl (mx_dd dd_X12_makesJob_1 19 (82, .invokevirtual 419, 3) rfl) g1 (by decide) P (fun h6 P => ?_)
    refine mx_aload_n (pc := 85) 2 (mx_dd dd_X12_makesJob_1 20 (85, .aload_n 0, 1) rfl) rfl rfl ?_
    refine mx_iload_n (pc := 86) 3 (mx_dd dd_X12_makesJob_1 21 (86, .iload_n 1, 1) rfl) rfl rfl ?_
    refine mx_bipush (pc := 87) (v := (49 : Int32)) (mx_dd dd_X12_makesJob_1 22 (87, .bipush 49, 2) rfl) (by decide) ?_
    refine mx_iload_n (pc := 89) 1 (mx_dd dd_X12_makesJob_1 23 (89, .iload_n 3, 1) rfl) rfl rfl ?_
    refine mx_iconst (pc := 90) (v := (1 : Int32)) (mx_dd dd_X12_makesJob_1 24 (90, .iconst 1, 1) rfl) (by decide) ?_
    refine mx_iadd (pc := 91) (mx_dd dd_X12_makesJob_1 25 (91, .iadd, 1) rfl) ?_
    obtain ⟨g8, P⟩ := P
    refine mx_cVV (pc := 92) (Y := mY_X12_sets) (As := [.int _, .int _, .int _]) mx_ml_X12_419 mx_y_X12_sets rfl g8 (by decide) rfl (by decide) rfl (mx_dd dd_X12_makesJob_1 26 (92, .invokevirtual 419, 3) rfl) g1 (by decide) P (fun h7 P => ?_)
    refine mx_aload_n (pc := 95) 2 (mx_dd dd_X12_makesJob_1 27 (95, .aload_n 0, 1) rfl) rfl rfl ?_
    refine mx_iload_n (pc := 96) 3 (mx_dd dd_X12_makesJob_1 28 (96, .iload_n 1, 1) rfl) rfl rfl ?_
    refine mx_bipush (pc := 97) (v := (33 : Int32)) (mx_dd dd_X12_makesJob_1 29 (97, .bipush 33, 2) rfl) (by decide) ?_
    refine mx_iconst (pc := 99) (v := (0 : Int32)) (mx_dd dd_X12_makesJob_1 30 (99, .iconst 0, 1) rfl) (by decide) ?_
    obtain ⟨g9, P⟩ := P
    refine mx_cVV (pc := 100) (Y := mY_X12_sets) (As := [.int _, .int _, .int _]) mx_ml_X12_419 mx_y_X12_sets rfl g9 (by decide) rfl (by decide) rfl (mx_dd dd_X12_makesJob_1 31 (100, .invokevirtual 419, 3) rfl) g1 (by decide) P (fun h8 P => ?_)
    exact mx_return (pc := 103) (mx_dd dd_X12_makesJob_1 32 (103, .return_, 1) rfl) rfl P
  · have P := P.2 c11
    refine mx_aload_n (pc := 14) 1 (mx_dd dd_X12_makesJob_0 8 (14, .aload_n 0, 1) rfl) rfl rfl ?_
    refine mx_iload_n (pc := 15) 2 (mx_dd dd_X12_makesJob_0 9 (15, .iload_n 1, 1) rfl) rfl rfl ?_
    refine mx_bipush (pc := 16) (v := (33 : Int32)) (mx_dd dd_X12_makesJob_0 10 (16, .bipush 33, 2) rfl) (by decide) ?_
    refine mx_iconst (pc := 18) (v := (1 : Int32)) (mx_dd dd_X12_makesJob_0 11 (18, .iconst 1, 1) rfl) (by decide) ?_
    obtain ⟨g10, P⟩ := P
    refine mx_cVV (pc := 19) (Y := mY_X12_sets) (As := [.int _, .int _, .int _]) mx_ml_X12_419 mx_y_X12_sets rfl g10 (by decide) rfl (by decide) rfl (mx_dd dd_X12_makesJob_0 12 (19, .invokevirtual 419, 3) rfl) g1 (by decide) P (fun h9 P => ?_)
    exact mx_return (pc := 22) (mx_dd dd_X12_makesJob_0 13 (22, .return_, 1) rfl) rfl P
theorem b_X12_saysWord {d : Nat} {h : mxH} {Q : mxRes → mxH → Prop} (x0 : Nat) (x1 : Int64)
    (P : (((lg_cmp x1 (37 : Int64)) < 0 → mx_SX mY_X12_saysWord d 17 [(0, .ref x0), (1, .long x1)] [] h Q) ∧ (¬ (lg_cmp x1 (37 : Int64)) < 0 → 1 ≤ d ∧ hpK h x0 = 12 ∧ mx_SM mY_X12_saysWord (d - 1) [.ref x0, .long (x1 / (37 : Int64))] h (mx_KV (fun h1 => mx_SX mY_X12_saysWord d 17 [(0, .ref x0), (1, .long x1)] [] h1 Q) (mx_XX mY_X12_saysWord Q))))) : mx_SM mY_X12_saysWord d [.ref x0, .long x1] h Q := by
  refine mx_SM_of (by decide) (Nat.le_of_ble_eq_true rfl) ?_
  show mx_SX mY_X12_saysWord d 0 [(0, .ref x0), (1, .long x1)] [] h Q
  refine mx_lload_n (pc := 0) 1 (mx_dd dd_X12_saysWord 0 (0, .lload_n 1, 1) rfl) rfl rfl ?_
  refine mx_ldc2 (pc := 1) mx_cL_X12_91 (mx_dd dd_X12_saysWord 1 (1, .ldc2_w 91, 3) rfl) ?_
  refine mx_lcmp (pc := 4) (mx_dd dd_X12_saysWord 2 (4, .lcmp, 1) rfl) ?_
  refine mx_if_lt (pc := 5) 17 (mx_dd dd_X12_saysWord 3 (5, .ifCond .lt 12, 3) rfl) rfl (fun c5 => ?_) (fun c5 => ?_)
  · have P := P.1 c5
    exact P
  · have P := P.2 c5
    refine mx_aload_n (pc := 8) 0 (mx_dd dd_X12_saysWord 4 (8, .aload_n 0, 1) rfl) rfl rfl ?_
    refine mx_lload_n (pc := 9) 1 (mx_dd dd_X12_saysWord 5 (9, .lload_n 1, 1) rfl) rfl rfl ?_
    refine mx_ldc2 (pc := 10) mx_cL_X12_91 (mx_dd dd_X12_saysWord 6 (10, .ldc2_w 91, 3) rfl) ?_
    refine mx_ldiv (pc := 13) (mx_dd dd_X12_saysWord 7 (13, .ldiv, 1) rfl) (by decide) ?_
    obtain ⟨g1, P⟩ := P
    obtain ⟨g2, P⟩ := P
    refine mx_cVV (pc := 14) (Y := mY_X12_saysWord) (As := [.long _]) mx_ml_X12_546 mx_y_X12_saysWord rfl g2 (by decide) rfl (by decide) rfl (mx_dd dd_X12_saysWord 8 (14, .invokevirtual 546, 3) rfl) g1 (by decide) P (fun h1 P => ?_)
    exact P
theorem b_X12_saysWord_17 {d : Nat} {h : mxH} {Q : mxRes → mxH → Prop} (x0 : Nat) (x1 : Int64)
    (P : hpK h x0 = 12 ∧ ∃ b1 : Nat, hpR h x0 74 = some b1 ∧ (((27 : Int32) ≤ ((x1 - x1 / (37 : Int64) * (37 : Int64)).toInt32) → hpK h b1 = 13 ∧ vp_in (hpI h x0 78) (hpZ h b1) ∧ ∀ h1 : mxH, h1 = hsI h b1 (hpI h x0 78).toNatClampNeg ((((48 : Int32) + ((x1 - x1 / (37 : Int64) * (37 : Int64)).toInt32)) - (27 : Int32)).toInt8.toInt32).toInt8.toInt32 → ∀ h2 : mxH, h2 = hsI h1 x0 78 ((hpI h1 x0 78) + (1 : Int32)) → Q (.inl none) h2) ∧ (¬ (27 : Int32) ≤ ((x1 - x1 / (37 : Int64) * (37 : Int64)).toInt32) → hpK h b1 = 13 ∧ vp_in (hpI h x0 78) (hpZ h b1) ∧ ∀ h3 : mxH, h3 = hsI h b1 (hpI h x0 78).toNatClampNeg ((((97 : Int32) + ((x1 - x1 / (37 : Int64) * (37 : Int64)).toInt32)) - (1 : Int32)).toInt8.toInt32).toInt8.toInt32 → ∀ h4 : mxH, h4 = hsI h3 x0 78 ((hpI h3 x0 78) + (1 : Int32)) → Q (.inl none) h4))) : mx_SX mY_X12_saysWord d 17 [(0, .ref x0), (1, .long x1)] [] h Q := by
  refine mx_lload_n (pc := 17) 1 (mx_dd dd_X12_saysWord 9 (17, .lload_n 1, 1) rfl) rfl rfl ?_
  refine mx_ldc2 (pc := 18) mx_cL_X12_91 (mx_dd dd_X12_saysWord 10 (18, .ldc2_w 91, 3) rfl) ?_
  refine mx_lrem (pc := 21) (mx_dd dd_X12_saysWord 11 (21, .lrem, 1) rfl) (by decide) ?_
  refine mx_l2i (pc := 22) (mx_dd dd_X12_saysWord 12 (22, .l2i, 1) rfl) ?_
  refine mx_istore_n (pc := 23) (mx_dd dd_X12_saysWord 13 (23, .istore_n 3, 1) rfl) rfl (by decide) (lv' := [(3, _), (0, _), (1, _)]) rfl ?_
  refine mx_aload_n (pc := 24) 1 (mx_dd dd_X12_saysWord 14 (24, .aload_n 0, 1) rfl) rfl rfl ?_
  obtain ⟨g1, P⟩ := P
  obtain ⟨b1, g2, P⟩ := P
  refine mx_getR (pc := 25) mx_fl_X12_550 g1 rfl g2 (mx_dd dd_X12_saysWord 15 (25, .getfield 550, 3) rfl) ?_
  refine mx_aload_n (pc := 28) 1 (mx_dd dd_X12_saysWord 16 (28, .aload_n 0, 1) rfl) rfl rfl ?_
  refine mx_getI (pc := 29) mx_fl_X12_553 g1 rfl (mx_dd dd_X12_saysWord 17 (29, .getfield 553, 3) rfl) ?_
  refine mx_iload_n (pc := 32) 0 (mx_dd dd_X12_saysWord 18 (32, .iload_n 3, 1) rfl) rfl rfl ?_
  refine mx_bipush (pc := 33) (v := (27 : Int32)) (mx_dd dd_X12_saysWord 19 (33, .bipush 27, 2) rfl) (by decide) ?_
  refine mx_icmp_ge (pc := 35) 47 (mx_dd dd_X12_saysWord 20 (35, .if_icmp .ge 12, 3) rfl) rfl (fun c35 => ?_) (fun c35 => ?_)
  · have P := P.1 c35
    refine mx_bipush (pc := 47) (v := (48 : Int32)) (mx_dd dd_X12_saysWord 27 (47, .bipush 48, 2) rfl) (by decide) ?_
    refine mx_iload_n (pc := 49) 0 (mx_dd dd_X12_saysWord 28 (49, .iload_n 3, 1) rfl) rfl rfl ?_
    refine mx_iadd (pc := 50) (mx_dd dd_X12_saysWord 29 (50, .iadd, 1) rfl) ?_
    refine mx_bipush (pc := 51) (v := (27 : Int32)) (mx_dd dd_X12_saysWord 30 (51, .bipush 27, 2) rfl) (by decide) ?_
    refine mx_isub (pc := 53) (mx_dd dd_X12_saysWord 31 (53, .isub, 1) rfl) ?_
    refine mx_i2b (pc := 54) (mx_dd dd_X12_saysWord 32 (54, .i2b, 1) rfl) ?_
    obtain ⟨g3, P⟩ := P
    obtain ⟨g4, P⟩ := P
    refine mx_bast (pc := 55) g3 g4 (mx_dd dd_X12_saysWord 33 (55, .bastore, 1) rfl) ?_
    have P := P _ rfl
    refine mx_aload_n (pc := 56) 1 (mx_dd dd_X12_saysWord 34 (56, .aload_n 0, 1) rfl) rfl rfl ?_
    refine mx_dup (pc := 57) (mx_dd dd_X12_saysWord 35 (57, .dup, 1) rfl) rfl ?_
    refine mx_getI (pc := 58) mx_fl_X12_553 g1 rfl (mx_dd dd_X12_saysWord 36 (58, .getfield 553, 3) rfl) ?_
    refine mx_iconst (pc := 61) (v := (1 : Int32)) (mx_dd dd_X12_saysWord 37 (61, .iconst 1, 1) rfl) (by decide) ?_
    refine mx_iadd (pc := 62) (mx_dd dd_X12_saysWord 38 (62, .iadd, 1) rfl) ?_
    refine mx_putI (pc := 63) mx_fl_X12_553 g1 rfl (.inl rfl) rfl rfl (mx_dd dd_X12_saysWord 39 (63, .putfield 553, 3) rfl) ?_
    have P := P _ rfl
    exact mx_return (pc := 66) (mx_dd dd_X12_saysWord 40 (66, .return_, 1) rfl) rfl P
  · have P := P.2 c35
    refine mx_bipush (pc := 38) (v := (97 : Int32)) (mx_dd dd_X12_saysWord 21 (38, .bipush 97, 2) rfl) (by decide) ?_
    refine mx_iload_n (pc := 40) 0 (mx_dd dd_X12_saysWord 22 (40, .iload_n 3, 1) rfl) rfl rfl ?_
    refine mx_iadd (pc := 41) (mx_dd dd_X12_saysWord 23 (41, .iadd, 1) rfl) ?_
    refine mx_iconst (pc := 42) (v := (1 : Int32)) (mx_dd dd_X12_saysWord 24 (42, .iconst 1, 1) rfl) (by decide) ?_
    refine mx_isub (pc := 43) (mx_dd dd_X12_saysWord 25 (43, .isub, 1) rfl) ?_
    refine mx_goto (pc := 44) 54 (mx_dd dd_X12_saysWord 26 (44, .goto 10, 3) rfl) rfl ?_
    refine mx_i2b (pc := 54) (mx_dd dd_X12_saysWord 32 (54, .i2b, 1) rfl) ?_
    obtain ⟨g5, P⟩ := P
    obtain ⟨g6, P⟩ := P
    refine mx_bast (pc := 55) g5 g6 (mx_dd dd_X12_saysWord 33 (55, .bastore, 1) rfl) ?_
    have P := P _ rfl
    refine mx_aload_n (pc := 56) 1 (mx_dd dd_X12_saysWord 34 (56, .aload_n 0, 1) rfl) rfl rfl ?_
    refine mx_dup (pc := 57) (mx_dd dd_X12_saysWord 35 (57, .dup, 1) rfl) rfl ?_
    refine mx_getI (pc := 58) mx_fl_X12_553 g1 rfl (mx_dd dd_X12_saysWord 36 (58, .getfield 553, 3) rfl) ?_
    refine mx_iconst (pc := 61) (v := (1 : Int32)) (mx_dd dd_X12_saysWord 37 (61, .iconst 1, 1) rfl) (by decide) ?_
    refine mx_iadd (pc := 62) (mx_dd dd_X12_saysWord 38 (62, .iadd, 1) rfl) ?_
    refine mx_putI (pc := 63) mx_fl_X12_553 g1 rfl (.inl rfl) rfl rfl (mx_dd dd_X12_saysWord 39 (63, .putfield 553, 3) rfl) ?_
    have P := P _ rfl
    exact mx_return (pc := 66) (mx_dd dd_X12_saysWord 40 (66, .return_, 1) rfl) rfl P
theorem b_X12_saysNumber {d : Nat} {h : mxH} {Q : mxRes → mxH → Prop} (x0 : Nat) (x1 : Int32)
    (P : ((x1 ≤ (9 : Int32) → mx_SX mY_X12_saysNumber d 14 [(0, .ref x0), (1, .int x1)] [] h Q) ∧ (¬ x1 ≤ (9 : Int32) → 1 ≤ d ∧ hpK h x0 = 12 ∧ mx_SM mY_X12_saysNumber (d - 1) [.ref x0, .int (x1 / (10 : Int32))] h (mx_KV (fun h1 => mx_SX mY_X12_saysNumber d 14 [(0, .ref x0), (1, .int x1)] [] h1 Q) (mx_XX mY_X12_saysNumber Q))))) : mx_SM mY_X12_saysNumber d [.ref x0, .int x1] h Q := by
  refine mx_SM_of (by decide) (Nat.le_of_ble_eq_true rfl) ?_
  show mx_SX mY_X12_saysNumber d 0 [(0, .ref x0), (1, .int x1)] [] h Q
  refine mx_iload_n (pc := 0) 1 (mx_dd dd_X12_saysNumber 0 (0, .iload_n 1, 1) rfl) rfl rfl ?_
  refine mx_bipush (pc := 1) (v := (9 : Int32)) (mx_dd dd_X12_saysNumber 1 (1, .bipush 9, 2) rfl) (by decide) ?_
  refine mx_icmp_le (pc := 3) 14 (mx_dd dd_X12_saysNumber 2 (3, .if_icmp .le 11, 3) rfl) rfl (fun c3 => ?_) (fun c3 => ?_)
  · have P := P.1 c3
    exact P
  · have P := P.2 c3
    refine mx_aload_n (pc := 6) 0 (mx_dd dd_X12_saysNumber 3 (6, .aload_n 0, 1) rfl) rfl rfl ?_
    refine mx_iload_n (pc := 7) 1 (mx_dd dd_X12_saysNumber 4 (7, .iload_n 1, 1) rfl) rfl rfl ?_
    refine mx_bipush (pc := 8) (v := (10 : Int32)) (mx_dd dd_X12_saysNumber 5 (8, .bipush 10, 2) rfl) (by decide) ?_
    refine mx_idiv (pc := 10) (mx_dd dd_X12_saysNumber 6 (10, .idiv, 1) rfl) (by decide) ?_
    obtain ⟨g1, P⟩ := P
    obtain ⟨g2, P⟩ := P
    refine mx_cVV (pc := 11) (Y := mY_X12_saysNumber) (As := [.int _]) mx_ml_X12_556 mx_y_X12_saysNumber rfl g2 (by decide) rfl (by decide) rfl (mx_dd dd_X12_saysNumber 7 (11, .invokevirtual 556, 3) rfl) g1 (by decide) P (fun h1 P => ?_)
    exact P
theorem b_X12_saysNumber_14 {d : Nat} {h : mxH} {Q : mxRes → mxH → Prop} (x0 : Nat) (x1 : Int32)
    (P : hpK h x0 = 12 ∧ ∃ b1 : Nat, hpR h x0 74 = some b1 ∧ hpK h b1 = 13 ∧ vp_in (hpI h x0 78) (hpZ h b1) ∧ ∀ h1 : mxH, h1 = hsI h b1 (hpI h x0 78).toNatClampNeg (((48 : Int32) + (x1 - x1 / (10 : Int32) * (10 : Int32))).toInt8.toInt32).toInt8.toInt32 → ∀ h2 : mxH, h2 = hsI h1 x0 78 ((hpI h1 x0 78) + (1 : Int32)) → Q (.inl none) h2) : mx_SX mY_X12_saysNumber d 14 [(0, .ref x0), (1, .int x1)] [] h Q := by
  refine mx_aload_n (pc := 14) 0 (mx_dd dd_X12_saysNumber 8 (14, .aload_n 0, 1) rfl) rfl rfl ?_
  obtain ⟨g1, P⟩ := P
  obtain ⟨b1, g2, P⟩ := P
  refine mx_getR (pc := 15) mx_fl_X12_550 g1 rfl g2 (mx_dd dd_X12_saysNumber 9 (15, .getfield 550, 3) rfl) ?_
  refine mx_aload_n (pc := 18) 0 (mx_dd dd_X12_saysNumber 10 (18, .aload_n 0, 1) rfl) rfl rfl ?_
  refine mx_getI (pc := 19) mx_fl_X12_553 g1 rfl (mx_dd dd_X12_saysNumber 11 (19, .getfield 553, 3) rfl) ?_
  refine mx_bipush (pc := 22) (v := (48 : Int32)) (mx_dd dd_X12_saysNumber 12 (22, .bipush 48, 2) rfl) (by decide) ?_
  refine mx_iload_n (pc := 24) 1 (mx_dd dd_X12_saysNumber 13 (24, .iload_n 1, 1) rfl) rfl rfl ?_
  refine mx_bipush (pc := 25) (v := (10 : Int32)) (mx_dd dd_X12_saysNumber 14 (25, .bipush 10, 2) rfl) (by decide) ?_
  refine mx_irem (pc := 27) (mx_dd dd_X12_saysNumber 15 (27, .irem, 1) rfl) (by decide) ?_
  refine mx_iadd (pc := 28) (mx_dd dd_X12_saysNumber 16 (28, .iadd, 1) rfl) ?_
  refine mx_i2b (pc := 29) (mx_dd dd_X12_saysNumber 17 (29, .i2b, 1) rfl) ?_
  obtain ⟨g3, P⟩ := P
  obtain ⟨g4, P⟩ := P
  refine mx_bast (pc := 30) g3 g4 (mx_dd dd_X12_saysNumber 18 (30, .bastore, 1) rfl) ?_
  have P := P _ rfl
  refine mx_aload_n (pc := 31) 0 (mx_dd dd_X12_saysNumber 19 (31, .aload_n 0, 1) rfl) rfl rfl ?_
  refine mx_dup (pc := 32) (mx_dd dd_X12_saysNumber 20 (32, .dup, 1) rfl) rfl ?_
  refine mx_getI (pc := 33) mx_fl_X12_553 g1 rfl (mx_dd dd_X12_saysNumber 21 (33, .getfield 553, 3) rfl) ?_
  refine mx_iconst (pc := 36) (v := (1 : Int32)) (mx_dd dd_X12_saysNumber 22 (36, .iconst 1, 1) rfl) (by decide) ?_
  refine mx_iadd (pc := 37) (mx_dd dd_X12_saysNumber 23 (37, .iadd, 1) rfl) ?_
  refine mx_putI (pc := 38) mx_fl_X12_553 g1 rfl (.inl rfl) rfl rfl (mx_dd dd_X12_saysNumber 24 (38, .putfield 553, 3) rfl) ?_
  have P := P _ rfl
  exact mx_return (pc := 41) (mx_dd dd_X12_saysNumber 25 (41, .return_, 1) rfl) rfl P
theorem b_X12_evaluates {d : Nat} {h : mxH} {Q : mxRes → mxH → Prop} (x0 : Nat) (x1 : Int32) (x2 : Int32)
    (P : hpK h x0 = 12 ∧ ∃ b1 : Nat, hpR h x0 75 = some b1 ∧ hpK h b1 = 14 ∧ vp_in (hpI h x0 77) (hpZ h b1) ∧ ∀ h1 : mxH, h1 = hsI h b1 (hpI h x0 77).toNatClampNeg (hpI h x0 78) → ∃ b2 : Nat, hpR h1 x0 33 = some b2 ∧ hpK h1 b2 = 14 ∧ vp_in x2 (hpZ h1 b2) ∧ ((¬ (hpI h1 b2 x2.toNatClampNeg) = (11 : Int32) → ((¬ (hpI h1 b2 x2.toNatClampNeg) = (13 : Int32) → ∃ b3 : Nat, hpR h1 x0 40 = some b3 ∧ hpK h1 b3 = 15 ∧ vp_in x2 (hpZ h1 b3) ∧ 1 ≤ d ∧ mx_SM mY_X12_variableOf (d - 1) [.ref x0, .int x1, .long (hpL h1 b3 x2.toNatClampNeg)] h1 (mx_KI (fun v1 h2 => ((¬ v1 = (-1 : Int32) → hpK h2 x0 = 12 ∧ mx_SM mY_X12_of (d - 1) [.ref x0, .int x1, .int ((1 : Int32) + v1)] h2 (mx_KI (fun v2 h3 => mx_SX mY_X12_evaluates d 94 [(0, .ref x0), (4, .int v2), (5, .int (0 : Int32))] [] h3 Q) (mx_XX mY_X12_evaluates Q))) ∧ (v1 = (-1 : Int32) → mx_SX mY_X12_evaluates d 94 [(0, .ref x0), (4, .int (0 : Int32)), (5, .int (0 : Int32))] [] h2 Q))) (mx_XX mY_X12_evaluates Q))) ∧ ((hpI h1 b2 x2.toNatClampNeg) = (13 : Int32) → 1 ≤ d ∧ mx_SM mY_X12_statusOf (d - 1) [.ref x0, .int x1] h1 (mx_KI (fun v3 h4 => hpK h4 x0 = 12 ∧ mx_SM mY_X12_saysNumber (d - 1) [.ref x0, .int v3] h4 (mx_KV (fun h5 => mx_SX mY_X12_evaluates d 153 [(0, .ref x0)] [] h5 Q) (mx_XX mY_X12_evaluates Q))) (mx_XX mY_X12_evaluates Q))))) ∧ ((hpI h1 b2 x2.toNatClampNeg) = (11 : Int32) → ∃ b4 : Nat, hpR h1 x0 40 = some b4 ∧ hpK h1 b4 = 15 ∧ vp_in x2 (hpZ h1 b4) ∧ 1 ≤ d ∧ mx_SM mY_X12_saysWord (d - 1) [.ref x0, .long (hpL h1 b4 x2.toNatClampNeg)] h1 (mx_KV (fun h6 => mx_SX mY_X12_evaluates d 153 [(0, .ref x0)] [] h6 Q) (mx_XX mY_X12_evaluates Q))))) : mx_SM mY_X12_evaluates d [.ref x0, .int x1, .int x2] h Q := by
  refine mx_SM_of (by decide) (Nat.le_of_ble_eq_true rfl) ?_
  show mx_SX mY_X12_evaluates d 0 [(0, .ref x0), (1, .int x1), (2, .int x2)] [] h Q
  refine mx_aload_n (pc := 0) 0 (mx_dd dd_X12_evaluates_0 0 (0, .aload_n 0, 1) rfl) rfl rfl ?_
  obtain ⟨g1, P⟩ := P
  obtain ⟨b1, g2, P⟩ := P
  refine mx_getR (pc := 1) mx_fl_X12_559 g1 rfl g2 (mx_dd dd_X12_evaluates_0 1 (1, .getfield 559, 3) rfl) ?_
  refine mx_aload_n (pc := 4) 0 (mx_dd dd_X12_evaluates_0 2 (4, .aload_n 0, 1) rfl) rfl rfl ?_
  refine mx_getI (pc := 5) mx_fl_X12_562 g1 rfl (mx_dd dd_X12_evaluates_0 3 (5, .getfield 562, 3) rfl) ?_
  refine mx_aload_n (pc := 8) 0 (mx_dd dd_X12_evaluates_0 4 (8, .aload_n 0, 1) rfl) rfl rfl ?_
  refine mx_getI (pc := 9) mx_fl_X12_553 g1 rfl (mx_dd dd_X12_evaluates_0 5 (9, .getfield 553, 3) rfl) ?_
  obtain ⟨g3, P⟩ := P
  obtain ⟨g4, P⟩ := P
  refine mx_iast (pc := 12) g3 g4 (mx_dd dd_X12_evaluates_0 6 (12, .iastore, 1) rfl) ?_
  have P := P _ rfl
  refine mx_aload_n (pc := 13) 0 (mx_dd dd_X12_evaluates_0 7 (13, .aload_n 0, 1) rfl) rfl rfl ?_
  obtain ⟨b2, g5, P⟩ := P
  refine mx_getR (pc := 14) mx_fl_X12_278 g1 rfl g5 (mx_dd dd_X12_evaluates_0 8 (14, .getfield 278, 3) rfl) ?_
  refine mx_iload_n (pc := 17) 2 (mx_dd dd_X12_evaluates_0 9 (17, .iload_n 2, 1) rfl) rfl rfl ?_
  obtain ⟨g6, P⟩ := P
  obtain ⟨g7, P⟩ := P
  refine mx_iald (pc := 18) g6 g7 (mx_dd dd_X12_evaluates_0 10 (18, .iaload, 1) rfl) ?_
  refine mx_bipush (pc := 19) (v := (11 : Int32)) (mx_dd dd_X12_evaluates_0 11 (19, .bipush 11, 2) rfl) (by decide) ?_
  refine mx_icmp_ne (pc := 21) 37 (mx_dd dd_X12_evaluates_0 12 (21, .if_icmp .ne 16, 3) rfl) rfl (fun c21 => ?_) (fun c21 => ?_)
  · have P := P.1 c21
    refine mx_aload_n (pc := 37) 0 (mx_dd dd_X12_evaluates_0 20 (37, .aload_n 0, 1) rfl) rfl rfl ?_
    refine mx_getR (pc := 38) mx_fl_X12_278 g1 rfl g5 (mx_dd dd_X12_evaluates_0 21 (38, .getfield 278, 3) rfl) ?_
    refine mx_iload_n (pc := 41) 2 (mx_dd dd_X12_evaluates_0 22 (41, .iload_n 2, 1) rfl) rfl rfl ?_
    refine mx_iald (pc := 42) g6 g7 (mx_dd dd_X12_evaluates_0 23 (42, .iaload, 1) rfl) ?_
    refine mx_bipush (pc := 43) (v := (13 : Int32)) (mx_dd dd_X12_evaluates_0 24 (43, .bipush 13, 2) rfl) (by decide) ?_
    refine mx_icmp_ne (pc := 45) 60 (mx_dd dd_X12_evaluates_0 25 (45, .if_icmp .ne 15, 3) rfl) rfl (fun c45 => ?_) (fun c45 => ?_)
    · have P := P.1 c45
      refine mx_aload_n (pc := 60) 0 (mx_dd dd_X12_evaluates_0 32 (60, .aload_n 0, 1) rfl) rfl rfl ?_
      refine mx_iload_n (pc := 61) 1 (mx_dd dd_X12_evaluates_0 33 (61, .iload_n 1, 1) rfl) rfl rfl ?_
      refine mx_aload_n (pc := 62) 0 (mx_dd dd_X12_evaluates_0 34 (62, .aload_n 0, 1) rfl) rfl rfl ?_
      obtain ⟨b3, g8, P⟩ := P
      refine mx_getR (pc := 63) mx_fl_X12_299 g1 rfl g8 (mx_dd dd_X12_evaluates_0 35 (63, .getfield 299, 3) rfl) ?_
      refine mx_iload_n (pc := 66) 2 (mx_dd dd_X12_evaluates_0 36 (66, .iload_n 2, 1) rfl) rfl rfl ?_
      obtain ⟨g9, P⟩ := P
      obtain ⟨g10, P⟩ := P
      refine mx_lald (pc := 67) g9 g10 (mx_dd dd_X12_evaluates_0 37 (67, .laload, 1) rfl) ?_
      obtain ⟨g11, P⟩ := P
      refine mx_cVI (pc := 68) (Y := mY_X12_variableOf) (As := [.int _, .long _]) mx_ml_X12_433 mx_y_X12_variableOf rfl g1 (by decide) rfl (by decide) rfl (mx_dd dd_X12_evaluates_0 38 (68, .invokevirtual 433, 3) rfl) g11 (by decide) P (fun v1 h2 P => ?_)
      refine mx_istore_n (pc := 71) (mx_dd dd_X12_evaluates_0 39 (71, .istore_n 3, 1) rfl) rfl (by decide) (lv' := [(3, _), (0, _), (1, _), (2, _)]) rfl ?_
      refine mx_iload_n (pc := 72) 0 (mx_dd dd_X12_evaluates_1 0 (72, .iload_n 3, 1) rfl) rfl rfl ?_
      refine mx_iconst (pc := 73) (v := (-1 : Int32)) (mx_dd dd_X12_evaluates_1 1 (73, .iconst (-1), 1) rfl) (by decide) ?_
      refine mx_icmp_ne (pc := 74) 81 (mx_dd dd_X12_evaluates_1 2 (74, .if_icmp .ne 7, 3) rfl) rfl (fun c74 => ?_) (fun c74 => ?_)
      · have P := P.1 c74
        refine mx_aload_n (pc := 81) 1 (mx_dd dd_X12_evaluates_1 5 (81, .aload_n 0, 1) rfl) rfl rfl ?_
        refine mx_iload_n (pc := 82) 2 (mx_dd dd_X12_evaluates_1 6 (82, .iload_n 1, 1) rfl) rfl rfl ?_
        refine mx_iconst (pc := 83) (v := (1 : Int32)) (mx_dd dd_X12_evaluates_1 7 (83, .iconst 1, 1) rfl) (by decide) ?_
        refine mx_iload_n (pc := 84) 0 (mx_dd dd_X12_evaluates_1 8 (84, .iload_n 3, 1) rfl) rfl rfl ?_
        refine mx_iadd (pc := 85) (mx_dd dd_X12_evaluates_1 9 (85, .iadd, 1) rfl) ?_
        obtain ⟨g12, P⟩ := P
        refine mx_cVI (pc := 86) (Y := mY_X12_of) (As := [.int _, .int _]) mx_ml_X12_416 mx_y_X12_of rfl g12 (by decide) rfl (by decide) rfl (mx_dd dd_X12_evaluates_1 10 (86, .invokevirtual 416, 3) rfl) g11 (by decide) P (fun v2 h3 P => ?_)
        refine mx_istore (pc := 89) (mx_dd dd_X12_evaluates_1 11 (89, .istore 4, 2) rfl) (by decide) (lv' := [(4, _), (3, _), (0, _), (1, _), (2, _)]) rfl ?_
        refine mx_iconst (pc := 91) (v := (0 : Int32)) (mx_dd dd_X12_evaluates_1 12 (91, .iconst 0, 1) rfl) (by decide) ?_
        refine mx_istore (pc := 92) (mx_dd dd_X12_evaluates_1 13 (92, .istore 5, 2) rfl) (by decide) (lv' := [(5, _), (4, _), (3, _), (0, _), (1, _), (2, _)]) rfl ?_
        refine mx_sel [3, 1, 0] rfl ?_
        exact P
      · have P := P.2 c74
        refine mx_iconst (pc := 77) (v := (0 : Int32)) (mx_dd dd_X12_evaluates_1 3 (77, .iconst 0, 1) rfl) (by decide) ?_
        refine mx_goto (pc := 78) 89 (mx_dd dd_X12_evaluates_1 4 (78, .goto 11, 3) rfl) rfl ?_
        refine mx_istore (pc := 89) (mx_dd dd_X12_evaluates_1 11 (89, .istore 4, 2) rfl) (by decide) (lv' := [(4, _), (3, _), (0, _), (1, _), (2, _)]) rfl ?_
        refine mx_iconst (pc := 91) (v := (0 : Int32)) (mx_dd dd_X12_evaluates_1 12 (91, .iconst 0, 1) rfl) (by decide) ?_
        refine mx_istore (pc := 92) (mx_dd dd_X12_evaluates_1 13 (92, .istore 5, 2) rfl) (by decide) (lv' := [(5, _), (4, _), (3, _), (0, _), (1, _), (2, _)]) rfl ?_
        refine mx_sel [3, 1, 0] rfl ?_
        exact P
    · have P := P.2 c45
      refine mx_aload_n (pc := 48) 0 (mx_dd dd_X12_evaluates_0 26 (48, .aload_n 0, 1) rfl) rfl rfl ?_
      refine mx_aload_n (pc := 49) 0 (mx_dd dd_X12_evaluates_0 27 (49, .aload_n 0, 1) rfl) rfl rfl ?_
      refine mx_iload_n (pc := 50) 1 (mx_dd dd_X12_evaluates_0 28 (50, .iload_n 1, 1) rfl) rfl rfl ?_
      obtain ⟨g13, P⟩ := P
      refine mx_cVI (pc := 51) (Y := mY_X12_statusOf) (As := [.int _]) mx_ml_X12_477 mx_y_X12_statusOf rfl g1 (by decide) rfl (by simp [Value.category]) rfl (mx_dd dd_X12_evaluates_0 29 (51, .invokevirtual 477, 3) rfl) g13 (by decide) P (fun v3 h4 P => ?_)
      obtain ⟨g14, P⟩ := P
      refine mx_cVV (pc := 54) (Y := mY_X12_saysNumber) (As := [.int _]) mx_ml_X12_556 mx_y_X12_saysNumber rfl g14 (by decide) rfl (by decide) rfl (mx_dd dd_X12_evaluates_0 30 (54, .invokevirtual 556, 3) rfl) g13 (by decide) P (fun h5 P => ?_)
      refine mx_goto (pc := 57) 153 (mx_dd dd_X12_evaluates_0 31 (57, .goto 96, 3) rfl) rfl ?_
      refine mx_sel [0] rfl ?_
      exact P
  · have P := P.2 c21
    refine mx_aload_n (pc := 24) 0 (mx_dd dd_X12_evaluates_0 13 (24, .aload_n 0, 1) rfl) rfl rfl ?_
    refine mx_aload_n (pc := 25) 0 (mx_dd dd_X12_evaluates_0 14 (25, .aload_n 0, 1) rfl) rfl rfl ?_
    obtain ⟨b4, g15, P⟩ := P
    refine mx_getR (pc := 26) mx_fl_X12_299 g1 rfl g15 (mx_dd dd_X12_evaluates_0 15 (26, .getfield 299, 3) rfl) ?_
    refine mx_iload_n (pc := 29) 2 (mx_dd dd_X12_evaluates_0 16 (29, .iload_n 2, 1) rfl) rfl rfl ?_
    obtain ⟨g16, P⟩ := P
    obtain ⟨g17, P⟩ := P
    refine mx_lald (pc := 30) g16 g17 (mx_dd dd_X12_evaluates_0 17 (30, .laload, 1) rfl) ?_
    obtain ⟨g18, P⟩ := P
    refine mx_cVV (pc := 31) (Y := mY_X12_saysWord) (As := [.long _]) mx_ml_X12_546 mx_y_X12_saysWord rfl g1 (by decide) rfl (by decide) rfl (mx_dd dd_X12_evaluates_0 18 (31, .invokevirtual 546, 3) rfl) g18 (by decide) P (fun h6 P => ?_)
    refine mx_goto (pc := 34) 153 (mx_dd dd_X12_evaluates_0 19 (34, .goto 119, 3) rfl) rfl ?_
    refine mx_sel [0] rfl ?_
    exact P
theorem b_X12_evaluates_94 {d : Nat} {h : mxH} {Q : mxRes → mxH → Prop} (x0 : Nat) (x4 : Int32) (x5 : Int32)
    (P : hpK h x0 = 12 ∧ ∃ b1 : Nat, hpR h x0 53 = some b1 ∧ hpK h b1 = 14 ∧ vp_in x4 (hpZ h b1) ∧ (((hpI h b1 x4.toNatClampNeg) ≤ x5 → ∀ h1 : mxH, h1 = hsI h x0 78 ((hpI h x0 78) + (hpI h b1 x4.toNatClampNeg)) → mx_SX mY_X12_evaluates d 153 [(0, .ref x0)] [] h1 Q) ∧ (¬ (hpI h b1 x4.toNatClampNeg) ≤ x5 → ∃ b2 : Nat, hpR h x0 74 = some b2 ∧ ∃ b3 : Nat, hpR h x0 52 = some b3 ∧ hpK h b3 = 13 ∧ vp_in (((80 : Int32) * x4) + x5) (hpZ h b3) ∧ hpK h b2 = 13 ∧ vp_in ((hpI h x0 78) + x5) (hpZ h b2) ∧ ∀ h2 : mxH, h2 = hsI h b2 ((hpI h x0 78) + x5).toNatClampNeg (hpI h b3 (((80 : Int32) * x4) + x5).toNatClampNeg).toInt8.toInt32 → mx_SX mY_X12_evaluates d 94 [(0, .ref x0), (4, .int x4), (5, .int (x5 + (1 : Int32)))] [] h2 Q))) : mx_SX mY_X12_evaluates d 94 [(0, .ref x0), (4, .int x4), (5, .int x5)] [] h Q := by
  refine mx_iload (pc := 94) 2 (mx_dd dd_X12_evaluates_1 14 (94, .iload 5, 2) rfl) rfl ?_
  refine mx_aload_n (pc := 96) 0 (mx_dd dd_X12_evaluates_1 15 (96, .aload_n 0, 1) rfl) rfl rfl ?_
  obtain ⟨g1, P⟩ := P
  obtain ⟨b1, g2, P⟩ := P
  refine mx_getR (pc := 97) mx_fl_X12_355 g1 rfl g2 (mx_dd dd_X12_evaluates_1 16 (97, .getfield 355, 3) rfl) ?_
  refine mx_iload (pc := 100) 1 (mx_dd dd_X12_evaluates_1 17 (100, .iload 4, 2) rfl) rfl ?_
  obtain ⟨g3, P⟩ := P
  obtain ⟨g4, P⟩ := P
  refine mx_iald (pc := 102) g3 g4 (mx_dd dd_X12_evaluates_1 18 (102, .iaload, 1) rfl) ?_
  refine mx_icmp_ge (pc := 103) 137 (mx_dd dd_X12_evaluates_1 19 (103, .if_icmp .ge 34, 3) rfl) rfl (fun c103 => ?_) (fun c103 => ?_)
  · have P := P.1 c103
    refine mx_aload_n (pc := 137) 0 (mx_dd dd_X12_evaluates_1 37 (137, .aload_n 0, 1) rfl) rfl rfl ?_
    refine mx_dup (pc := 138) (mx_dd dd_X12_evaluates_1 38 (138, .dup, 1) rfl) rfl ?_
    refine mx_getI (pc := 139) mx_fl_X12_553 g1 rfl (mx_dd dd_X12_evaluates_1 39 (139, .getfield 553, 3) rfl) ?_
    refine mx_aload_n (pc := 142) 0 (mx_dd dd_X12_evaluates_2 0 (142, .aload_n 0, 1) rfl) rfl rfl ?_
    refine mx_getR (pc := 143) mx_fl_X12_355 g1 rfl g2 (mx_dd dd_X12_evaluates_2 1 (143, .getfield 355, 3) rfl) ?_
    refine mx_iload (pc := 146) 1 (mx_dd dd_X12_evaluates_2 2 (146, .iload 4, 2) rfl) rfl ?_
    refine mx_iald (pc := 148) g3 g4 (mx_dd dd_X12_evaluates_2 3 (148, .iaload, 1) rfl) ?_
    refine mx_iadd (pc := 149) (mx_dd dd_X12_evaluates_2 4 (149, .iadd, 1) rfl) ?_
    refine mx_putI (pc := 150) mx_fl_X12_553 g1 rfl (.inl rfl) rfl rfl (mx_dd dd_X12_evaluates_2 5 (150, .putfield 553, 3) rfl) ?_
    have P := P _ rfl
    refine mx_sel [0] rfl ?_
    exact P
  · have P := P.2 c103
    refine mx_aload_n (pc := 106) 0 (mx_dd dd_X12_evaluates_1 20 (106, .aload_n 0, 1) rfl) rfl rfl ?_
    obtain ⟨b2, g5, P⟩ := P
    refine mx_getR (pc := 107) mx_fl_X12_550 g1 rfl g5 (mx_dd dd_X12_evaluates_1 21 (107, .getfield 550, 3) rfl) ?_
    refine mx_aload_n (pc := 110) 0 (mx_dd dd_X12_evaluates_1 22 (110, .aload_n 0, 1) rfl) rfl rfl ?_
    refine mx_getI (pc := 111) mx_fl_X12_553 g1 rfl (mx_dd dd_X12_evaluates_1 23 (111, .getfield 553, 3) rfl) ?_
    refine mx_iload (pc := 114) 2 (mx_dd dd_X12_evaluates_1 24 (114, .iload 5, 2) rfl) rfl ?_
    refine mx_iadd (pc := 116) (mx_dd dd_X12_evaluates_1 25 (116, .iadd, 1) rfl) ?_
    refine mx_aload_n (pc := 117) 0 (mx_dd dd_X12_evaluates_1 26 (117, .aload_n 0, 1) rfl) rfl rfl ?_
    obtain ⟨b3, g6, P⟩ := P
    refine mx_getR (pc := 118) mx_fl_X12_358 g1 rfl g6 (mx_dd dd_X12_evaluates_1 27 (118, .getfield 358, 3) rfl) ?_
    refine mx_bipush (pc := 121) (v := (80 : Int32)) (mx_dd dd_X12_evaluates_1 28 (121, .bipush 80, 2) rfl) (by decide) ?_
    refine mx_iload (pc := 123) 1 (mx_dd dd_X12_evaluates_1 29 (123, .iload 4, 2) rfl) rfl ?_
    refine mx_imul (pc := 125) (mx_dd dd_X12_evaluates_1 30 (125, .imul, 1) rfl) ?_
    refine mx_iload (pc := 126) 2 (mx_dd dd_X12_evaluates_1 31 (126, .iload 5, 2) rfl) rfl ?_
    refine mx_iadd (pc := 128) (mx_dd dd_X12_evaluates_1 32 (128, .iadd, 1) rfl) ?_
    obtain ⟨g7, P⟩ := P
    obtain ⟨g8, P⟩ := P
    refine mx_bald (pc := 129) g7 g8 (mx_dd dd_X12_evaluates_1 33 (129, .baload, 1) rfl) ?_
    obtain ⟨g9, P⟩ := P
    obtain ⟨g10, P⟩ := P
    refine mx_bast (pc := 130) g9 g10 (mx_dd dd_X12_evaluates_1 34 (130, .bastore, 1) rfl) ?_
    have P := P _ rfl
    refine mx_iinc (pc := 131) 2 (mx_dd dd_X12_evaluates_1 35 (131, .iinc 5 1, 3) rfl) rfl (mx_kadd (by decide : Int32.ofInt 1 = (1 : Int32))) (by decide) (lv' := [(5, _), (0, _), (4, _)]) rfl ?_
    refine mx_goto (pc := 134) 94 (mx_dd dd_X12_evaluates_1 36 (134, .goto (-40), 3) rfl) rfl ?_
    refine mx_sel [1, 2, 0] rfl ?_
    exact P
theorem b_X12_evaluates_153 {d : Nat} {h : mxH} {Q : mxRes → mxH → Prop} (x0 : Nat)
    (P : hpK h x0 = 12 ∧ ∃ b1 : Nat, hpR h x0 76 = some b1 ∧ ∃ b2 : Nat, hpR h x0 75 = some b2 ∧ hpK h b2 = 14 ∧ vp_in (hpI h x0 77) (hpZ h b2) ∧ hpK h b1 = 14 ∧ vp_in (hpI h x0 77) (hpZ h b1) ∧ ∀ h1 : mxH, h1 = hsI h b1 (hpI h x0 77).toNatClampNeg ((hpI h x0 78) - (hpI h b2 (hpI h x0 77).toNatClampNeg)) → ∀ h2 : mxH, h2 = hsI h1 x0 77 ((hpI h1 x0 77) + (1 : Int32)) → Q (.inl none) h2) : mx_SX mY_X12_evaluates d 153 [(0, .ref x0)] [] h Q := by
  refine mx_aload_n (pc := 153) 0 (mx_dd dd_X12_evaluates_2 6 (153, .aload_n 0, 1) rfl) rfl rfl ?_
  obtain ⟨g1, P⟩ := P
  obtain ⟨b1, g2, P⟩ := P
  refine mx_getR (pc := 154) mx_fl_X12_565 g1 rfl g2 (mx_dd dd_X12_evaluates_2 7 (154, .getfield 565, 3) rfl) ?_
  refine mx_aload_n (pc := 157) 0 (mx_dd dd_X12_evaluates_2 8 (157, .aload_n 0, 1) rfl) rfl rfl ?_
  refine mx_getI (pc := 158) mx_fl_X12_562 g1 rfl (mx_dd dd_X12_evaluates_2 9 (158, .getfield 562, 3) rfl) ?_
  refine mx_aload_n (pc := 161) 0 (mx_dd dd_X12_evaluates_2 10 (161, .aload_n 0, 1) rfl) rfl rfl ?_
  refine mx_getI (pc := 162) mx_fl_X12_553 g1 rfl (mx_dd dd_X12_evaluates_2 11 (162, .getfield 553, 3) rfl) ?_
  refine mx_aload_n (pc := 165) 0 (mx_dd dd_X12_evaluates_2 12 (165, .aload_n 0, 1) rfl) rfl rfl ?_
  obtain ⟨b2, g3, P⟩ := P
  refine mx_getR (pc := 166) mx_fl_X12_559 g1 rfl g3 (mx_dd dd_X12_evaluates_2 13 (166, .getfield 559, 3) rfl) ?_
  refine mx_aload_n (pc := 169) 0 (mx_dd dd_X12_evaluates_2 14 (169, .aload_n 0, 1) rfl) rfl rfl ?_
  refine mx_getI (pc := 170) mx_fl_X12_562 g1 rfl (mx_dd dd_X12_evaluates_2 15 (170, .getfield 562, 3) rfl) ?_
  obtain ⟨g4, P⟩ := P
  obtain ⟨g5, P⟩ := P
  refine mx_iald (pc := 173) g4 g5 (mx_dd dd_X12_evaluates_2 16 (173, .iaload, 1) rfl) ?_
  refine mx_isub (pc := 174) (mx_dd dd_X12_evaluates_2 17 (174, .isub, 1) rfl) ?_
  obtain ⟨g6, P⟩ := P
  obtain ⟨g7, P⟩ := P
  refine mx_iast (pc := 175) g6 g7 (mx_dd dd_X12_evaluates_2 18 (175, .iastore, 1) rfl) ?_
  have P := P _ rfl
  refine mx_aload_n (pc := 176) 0 (mx_dd dd_X12_evaluates_2 19 (176, .aload_n 0, 1) rfl) rfl rfl ?_
  refine mx_dup (pc := 177) (mx_dd dd_X12_evaluates_2 20 (177, .dup, 1) rfl) rfl ?_
  refine mx_getI (pc := 178) mx_fl_X12_562 g1 rfl (mx_dd dd_X12_evaluates_2 21 (178, .getfield 562, 3) rfl) ?_
  refine mx_iconst (pc := 181) (v := (1 : Int32)) (mx_dd dd_X12_evaluates_2 22 (181, .iconst 1, 1) rfl) (by decide) ?_
  refine mx_iadd (pc := 182) (mx_dd dd_X12_evaluates_2 23 (182, .iadd, 1) rfl) ?_
  refine mx_putI (pc := 183) mx_fl_X12_562 g1 rfl (.inl rfl) rfl rfl (mx_dd dd_X12_evaluates_2 24 (183, .putfield 562, 3) rfl) ?_
  have P := P _ rfl
  exact mx_return (pc := 186) (mx_dd dd_X12_evaluates_2 25 (186, .return_, 1) rfl) rfl P
theorem b_X12_evaluatesAll {d : Nat} {h : mxH} {Q : mxRes → mxH → Prop} (x0 : Nat) (x1 : Int32) (x2 : Int32)
    (P : hpK h x0 = 12 ∧ ∀ h1 : mxH, h1 = hsI h x0 77 (0 : Int32) → ∀ h2 : mxH, h2 = hsI h1 x0 78 (0 : Int32) → ∃ b1 : Nat, hpR h2 x0 34 = some b1 ∧ hpK h2 b1 = 14 ∧ vp_in x2 (hpZ h2 b1) ∧ mx_SX mY_X12_evaluatesAll d 17 [(0, .ref x0), (1, .int x1), (3, .int (hpI h2 b1 x2.toNatClampNeg))] [] h2 Q) : mx_SM mY_X12_evaluatesAll d [.ref x0, .int x1, .int x2] h Q := by
  refine mx_SM_of (by decide) (Nat.le_of_ble_eq_true rfl) ?_
  show mx_SX mY_X12_evaluatesAll d 0 [(0, .ref x0), (1, .int x1), (2, .int x2)] [] h Q
  refine mx_aload_n (pc := 0) 0 (mx_dd dd_X12_evaluatesAll 0 (0, .aload_n 0, 1) rfl) rfl rfl ?_
  refine mx_iconst (pc := 1) (v := (0 : Int32)) (mx_dd dd_X12_evaluatesAll 1 (1, .iconst 0, 1) rfl) (by decide) ?_
  obtain ⟨g1, P⟩ := P
  refine mx_putI (pc := 2) mx_fl_X12_562 g1 rfl (.inl rfl) rfl rfl (mx_dd dd_X12_evaluatesAll 2 (2, .putfield 562, 3) rfl) ?_
  have P := P _ rfl
  refine mx_aload_n (pc := 5) 0 (mx_dd dd_X12_evaluatesAll 3 (5, .aload_n 0, 1) rfl) rfl rfl ?_
  refine mx_iconst (pc := 6) (v := (0 : Int32)) (mx_dd dd_X12_evaluatesAll 4 (6, .iconst 0, 1) rfl) (by decide) ?_
  refine mx_putI (pc := 7) mx_fl_X12_553 g1 rfl (.inl rfl) rfl rfl (mx_dd dd_X12_evaluatesAll 5 (7, .putfield 553, 3) rfl) ?_
  have P := P _ rfl
  refine mx_aload_n (pc := 10) 0 (mx_dd dd_X12_evaluatesAll 6 (10, .aload_n 0, 1) rfl) rfl rfl ?_
  obtain ⟨b1, g2, P⟩ := P
  refine mx_getR (pc := 11) mx_fl_X12_281 g1 rfl g2 (mx_dd dd_X12_evaluatesAll 7 (11, .getfield 281, 3) rfl) ?_
  refine mx_iload_n (pc := 14) 2 (mx_dd dd_X12_evaluatesAll 8 (14, .iload_n 2, 1) rfl) rfl rfl ?_
  obtain ⟨g3, P⟩ := P
  obtain ⟨g4, P⟩ := P
  refine mx_iald (pc := 15) g3 g4 (mx_dd dd_X12_evaluatesAll 9 (15, .iaload, 1) rfl) ?_
  refine mx_istore_n (pc := 16) (mx_dd dd_X12_evaluatesAll 10 (16, .istore_n 3, 1) rfl) rfl (by decide) (lv' := [(3, _), (0, _), (1, _), (2, _)]) rfl ?_
  refine mx_sel [1, 2, 0] rfl ?_
  exact P
theorem b_X12_evaluatesAll_17 {d : Nat} {h : mxH} {Q : mxRes → mxH → Prop} (x0 : Nat) (x1 : Int32) (x3 : Int32)
    (P : ((x3 = (-1 : Int32) → Q (.inl none) h) ∧ (¬ x3 = (-1 : Int32) → 1 ≤ d ∧ hpK h x0 = 12 ∧ mx_SM mY_X12_evaluates (d - 1) [.ref x0, .int x1, .int x3] h (mx_KV (fun h1 => hpK h1 x0 = 12 ∧ ∃ b1 : Nat, hpR h1 x0 38 = some b1 ∧ hpK h1 b1 = 14 ∧ vp_in x3 (hpZ h1 b1) ∧ mx_SX mY_X12_evaluatesAll d 17 [(0, .ref x0), (1, .int x1), (3, .int (hpI h1 b1 x3.toNatClampNeg))] [] h1 Q) (mx_XX mY_X12_evaluatesAll Q))))) : mx_SX mY_X12_evaluatesAll d 17 [(0, .ref x0), (1, .int x1), (3, .int x3)] [] h Q := by
  refine mx_iload_n (pc := 17) 2 (mx_dd dd_X12_evaluatesAll 11 (17, .iload_n 3, 1) rfl) rfl rfl ?_
  refine mx_iconst (pc := 18) (v := (-1 : Int32)) (mx_dd dd_X12_evaluatesAll 12 (18, .iconst (-1), 1) rfl) (by decide) ?_
  refine mx_icmp_eq (pc := 19) 38 (mx_dd dd_X12_evaluatesAll 13 (19, .if_icmp .eq 19, 3) rfl) rfl (fun c19 => ?_) (fun c19 => ?_)
  · have P := P.1 c19
    exact mx_return (pc := 38) (mx_dd dd_X12_evaluatesAll 24 (38, .return_, 1) rfl) rfl P
  · have P := P.2 c19
    refine mx_aload_n (pc := 22) 0 (mx_dd dd_X12_evaluatesAll 14 (22, .aload_n 0, 1) rfl) rfl rfl ?_
    refine mx_iload_n (pc := 23) 1 (mx_dd dd_X12_evaluatesAll 15 (23, .iload_n 1, 1) rfl) rfl rfl ?_
    refine mx_iload_n (pc := 24) 2 (mx_dd dd_X12_evaluatesAll 16 (24, .iload_n 3, 1) rfl) rfl rfl ?_
    obtain ⟨g1, P⟩ := P
    obtain ⟨g2, P⟩ := P
    refine mx_cVV (pc := 25) (Y := mY_X12_evaluates) (As := [.int _, .int _]) mx_ml_X12_568 mx_y_X12_evaluates rfl g2 (by decide) rfl (by decide) rfl (mx_dd dd_X12_evaluatesAll 17 (25, .invokevirtual 568, 3) rfl) g1 (by decide) P (fun h1 P => ?_)
    refine mx_aload_n (pc := 28) 0 (mx_dd dd_X12_evaluatesAll 18 (28, .aload_n 0, 1) rfl) rfl rfl ?_
    obtain ⟨g3, P⟩ := P
    obtain ⟨b1, g4, P⟩ := P
    refine mx_getR (pc := 29) mx_fl_X12_293 g3 rfl g4 (mx_dd dd_X12_evaluatesAll 19 (29, .getfield 293, 3) rfl) ?_
    refine mx_iload_n (pc := 32) 2 (mx_dd dd_X12_evaluatesAll 20 (32, .iload_n 3, 1) rfl) rfl rfl ?_
    obtain ⟨g5, P⟩ := P
    obtain ⟨g6, P⟩ := P
    refine mx_iald (pc := 33) g5 g6 (mx_dd dd_X12_evaluatesAll 21 (33, .iaload, 1) rfl) ?_
    refine mx_istore_n (pc := 34) (mx_dd dd_X12_evaluatesAll 22 (34, .istore_n 3, 1) rfl) rfl (by decide) (lv' := [(3, _), (0, _), (1, _)]) rfl ?_
    refine mx_goto (pc := 35) 17 (mx_dd dd_X12_evaluatesAll 23 (35, .goto (-18), 3) rfl) rfl ?_
    refine mx_sel [1, 2, 0] rfl ?_
    exact P
theorem b_X12_nameAt {d : Nat} {h : mxH} {Q : mxRes → mxH → Prop} (x0 : Nat) (x1 : Int32)
    (P : hpK h x0 = 12 ∧ ∃ b1 : Nat, hpR h x0 76 = some b1 ∧ hpK h b1 = 14 ∧ vp_in x1 (hpZ h b1) ∧ 1 ≤ d ∧ mx_SM mY_X12_in (d - 1) [.int (hpI h b1 x1.toNatClampNeg), .int (1 : Int32), .int (12 : Int32)] h (mx_KI (fun v1 h1 => mx_SX mY_X12_nameAt d 19 [(0, .ref x0), (1, .int x1), (2, .long (0 : Int64)), (4, .int v1), (5, .int (0 : Int32))] [] h1 Q) (mx_XX mY_X12_nameAt Q))) : mx_SM mY_X12_nameAt d [.ref x0, .int x1] h Q := by
  refine mx_SM_of (by decide) (Nat.le_of_ble_eq_true rfl) ?_
  show mx_SX mY_X12_nameAt d 0 [(0, .ref x0), (1, .int x1)] [] h Q
  refine mx_lconst (pc := 0) (v := (0 : Int64)) (mx_dd dd_X12_nameAt 0 (0, .lconst 0, 1) rfl) (by decide) ?_
  refine mx_lstore_n (pc := 1) (mx_dd dd_X12_nameAt 1 (1, .lstore_n 2, 1) rfl) rfl (by decide) (lv' := [(2, _), (0, _), (1, _)]) rfl ?_
  refine mx_aload_n (pc := 2) 1 (mx_dd dd_X12_nameAt 2 (2, .aload_n 0, 1) rfl) rfl rfl ?_
  obtain ⟨g1, P⟩ := P
  obtain ⟨b1, g2, P⟩ := P
  refine mx_getR (pc := 3) mx_fl_X12_565 g1 rfl g2 (mx_dd dd_X12_nameAt 3 (3, .getfield 565, 3) rfl) ?_
  refine mx_iload_n (pc := 6) 2 (mx_dd dd_X12_nameAt 4 (6, .iload_n 1, 1) rfl) rfl rfl ?_
  obtain ⟨g3, P⟩ := P
  obtain ⟨g4, P⟩ := P
  refine mx_iald (pc := 7) g3 g4 (mx_dd dd_X12_nameAt 5 (7, .iaload, 1) rfl) ?_
  refine mx_iconst (pc := 8) (v := (1 : Int32)) (mx_dd dd_X12_nameAt 6 (8, .iconst 1, 1) rfl) (by decide) ?_
  refine mx_bipush (pc := 9) (v := (12 : Int32)) (mx_dd dd_X12_nameAt 7 (9, .bipush 12, 2) rfl) (by decide) ?_
  obtain ⟨g5, P⟩ := P
  refine mx_cSI (pc := 11) (Y := mY_X12_in) (As := [.int _, .int _, .int _]) mx_ml_X12_571 mx_y_X12_in rfl rfl (by decide) rfl (mx_dd dd_X12_nameAt 8 (11, .invokestatic 571, 3) rfl) g5 (by decide) P (fun v1 h1 P => ?_)
  refine mx_istore (pc := 14) (mx_dd dd_X12_nameAt 9 (14, .istore 4, 2) rfl) (by decide) (lv' := [(4, _), (2, _), (0, _), (1, _)]) rfl ?_
  refine mx_iconst (pc := 16) (v := (0 : Int32)) (mx_dd dd_X12_nameAt 10 (16, .iconst 0, 1) rfl) (by decide) ?_
  refine mx_istore (pc := 17) (mx_dd dd_X12_nameAt 11 (17, .istore 5, 2) rfl) (by decide) (lv' := [(5, _), (4, _), (2, _), (0, _), (1, _)]) rfl ?_
  refine mx_sel [3, 4, 2, 1, 0] rfl ?_
  exact P
theorem b_X12_nameAt_19 {d : Nat} {h : mxH} {Q : mxRes → mxH → Prop} (x0 : Nat) (x1 : Int32) (x2 : Int64) (x4 : Int32) (x5 : Int32)
    (P : hpK h x0 = 12 ∧ ∃ b1 : Nat, hpR h x0 76 = some b1 ∧ hpK h b1 = 14 ∧ vp_in x1 (hpZ h b1) ∧ (((hpI h b1 x1.toNatClampNeg) ≤ x5 → mx_SX mY_X12_nameAt d 85 [(2, .long x2), (4, .int x4)] [] h Q) ∧ (¬ (hpI h b1 x1.toNatClampNeg) ≤ x5 → ((x4 = 0 → mx_SX mY_X12_nameAt d 85 [(2, .long x2), (4, .int x4)] [] h Q) ∧ (¬ x4 = 0 → ∃ b2 : Nat, hpR h x0 74 = some b2 ∧ ∃ b3 : Nat, hpR h x0 75 = some b3 ∧ hpK h b3 = 14 ∧ vp_in x1 (hpZ h b3) ∧ hpK h b2 = 13 ∧ vp_in ((hpI h b3 x1.toNatClampNeg) + x5) (hpZ h b2) ∧ 1 ≤ d ∧ mx_SM mY_X12_isLetter (d - 1) [.int (hpI h b2 ((hpI h b3 x1.toNatClampNeg) + x5).toNatClampNeg)] h (mx_KI (fun v1 h1 => ((v1 = 0 → mx_SX mY_X12_nameAt d 19 [(0, .ref x0), (1, .int x1), (2, .long (((37 : Int64) * x2) + (0 : Int64))), (4, .int v1), (5, .int (x5 + (1 : Int32)))] [] h1 Q) ∧ (¬ v1 = 0 → mx_SM mY_X12_valueOf (d - 1) [.int (hpI h b2 ((hpI h b3 x1.toNatClampNeg) + x5).toNatClampNeg)] h1 (mx_KL (fun v2 h2 => mx_SX mY_X12_nameAt d 19 [(0, .ref x0), (1, .int x1), (2, .long (((37 : Int64) * x2) + v2)), (4, .int v1), (5, .int (x5 + (1 : Int32)))] [] h2 Q) (mx_XX mY_X12_nameAt Q))))) (mx_XX mY_X12_nameAt Q))))))) : mx_SX mY_X12_nameAt d 19 [(0, .ref x0), (1, .int x1), (2, .long x2), (4, .int x4), (5, .int x5)] [] h Q := by
  refine mx_iload (pc := 19) 4 (mx_dd dd_X12_nameAt 12 (19, .iload 5, 2) rfl) rfl ?_
  refine mx_aload_n (pc := 21) 0 (mx_dd dd_X12_nameAt 13 (21, .aload_n 0, 1) rfl) rfl rfl ?_
  obtain ⟨g1, P⟩ := P
  obtain ⟨b1, g2, P⟩ := P
  refine mx_getR (pc := 22) mx_fl_X12_565 g1 rfl g2 (mx_dd dd_X12_nameAt 14 (22, .getfield 565, 3) rfl) ?_
  refine mx_iload_n (pc := 25) 1 (mx_dd dd_X12_nameAt 15 (25, .iload_n 1, 1) rfl) rfl rfl ?_
  obtain ⟨g3, P⟩ := P
  obtain ⟨g4, P⟩ := P
  refine mx_iald (pc := 26) g3 g4 (mx_dd dd_X12_nameAt 16 (26, .iaload, 1) rfl) ?_
  refine mx_icmp_ge (pc := 27) 85 (mx_dd dd_X12_nameAt 17 (27, .if_icmp .ge 58, 3) rfl) rfl (fun c27 => ?_) (fun c27 => ?_)
  · have P := P.1 c27
    refine mx_sel [2, 3] rfl ?_
    exact P
  · have P := P.2 c27
    refine mx_iload (pc := 30) 3 (mx_dd dd_X12_nameAt 18 (30, .iload 4, 2) rfl) rfl ?_
    refine mx_if_eq (pc := 32) 85 (mx_dd dd_X12_nameAt 19 (32, .ifCond .eq 53, 3) rfl) rfl (fun c32 => ?_) (fun c32 => ?_)
    · have P := P.1 c32
      refine mx_sel [2, 3] rfl ?_
      exact P
    · have P := P.2 c32
      refine mx_aload_n (pc := 35) 0 (mx_dd dd_X12_nameAt 20 (35, .aload_n 0, 1) rfl) rfl rfl ?_
      obtain ⟨b2, g5, P⟩ := P
      refine mx_getR (pc := 36) mx_fl_X12_550 g1 rfl g5 (mx_dd dd_X12_nameAt 21 (36, .getfield 550, 3) rfl) ?_
      refine mx_aload_n (pc := 39) 0 (mx_dd dd_X12_nameAt 22 (39, .aload_n 0, 1) rfl) rfl rfl ?_
      obtain ⟨b3, g6, P⟩ := P
      refine mx_getR (pc := 40) mx_fl_X12_559 g1 rfl g6 (mx_dd dd_X12_nameAt 23 (40, .getfield 559, 3) rfl) ?_
      refine mx_iload_n (pc := 43) 1 (mx_dd dd_X12_nameAt 24 (43, .iload_n 1, 1) rfl) rfl rfl ?_
      obtain ⟨g7, P⟩ := P
      obtain ⟨g8, P⟩ := P
      refine mx_iald (pc := 44) g7 g8 (mx_dd dd_X12_nameAt 25 (44, .iaload, 1) rfl) ?_
      refine mx_iload (pc := 45) 4 (mx_dd dd_X12_nameAt 26 (45, .iload 5, 2) rfl) rfl ?_
      refine mx_iadd (pc := 47) (mx_dd dd_X12_nameAt 27 (47, .iadd, 1) rfl) ?_
      obtain ⟨g9, P⟩ := P
      obtain ⟨g10, P⟩ := P
      refine mx_bald (pc := 48) g9 g10 (mx_dd dd_X12_nameAt 28 (48, .baload, 1) rfl) ?_
      refine mx_istore (pc := 49) (mx_dd dd_X12_nameAt 29 (49, .istore 6, 2) rfl) (by decide) (lv' := [(6, _), (0, _), (1, _), (2, _), (4, _), (5, _)]) rfl ?_
      refine mx_iload (pc := 51) 0 (mx_dd dd_X12_nameAt 30 (51, .iload 6, 2) rfl) rfl ?_
      obtain ⟨g11, P⟩ := P
      refine mx_cSI (pc := 53) (Y := mY_X12_isLetter) (As := [.int _]) mx_ml_X12_43 mx_y_X12_isLetter rfl rfl (by decide) rfl (mx_dd dd_X12_nameAt 31 (53, .invokestatic 43, 3) rfl) g11 (by decide) P (fun v1 h1 P => ?_)
      refine mx_istore (pc := 56) (mx_dd dd_X12_nameAt 32 (56, .istore 4, 2) rfl) (by decide) (lv' := [(4, _), (6, _), (0, _), (1, _), (2, _), (5, _)]) rfl ?_
      refine mx_ldc2 (pc := 58) mx_cL_X12_91 (mx_dd dd_X12_nameAt 33 (58, .ldc2_w 91, 3) rfl) ?_
      refine mx_lload_n (pc := 61) 4 (mx_dd dd_X12_nameAt 34 (61, .lload_n 2, 1) rfl) rfl rfl ?_
      refine mx_lmul (pc := 62) (mx_dd dd_X12_nameAt 35 (62, .lmul, 1) rfl) ?_
      refine mx_iload (pc := 63) 0 (mx_dd dd_X12_nameAt 36 (63, .iload 4, 2) rfl) rfl ?_
      refine mx_if_eq (pc := 65) 76 (mx_dd dd_X12_nameAt 37 (65, .ifCond .eq 11, 3) rfl) rfl (fun c65 => ?_) (fun c65 => ?_)
      · have P := P.1 c65
        refine mx_lconst (pc := 76) (v := (0 : Int64)) (mx_dd dd_X12_nameAt 41 (76, .lconst 0, 1) rfl) (by decide) ?_
        refine mx_ladd (pc := 77) (mx_dd dd_X12_nameAt 42 (77, .ladd, 1) rfl) ?_
        refine mx_lstore_n (pc := 78) (mx_dd dd_X12_nameAt 43 (78, .lstore_n 2, 1) rfl) rfl (by decide) (lv' := [(2, _), (4, _), (6, _), (0, _), (1, _), (5, _)]) rfl ?_
        refine mx_iinc (pc := 79) 5 (mx_dd dd_X12_nameAt 44 (79, .iinc 5 1, 3) rfl) rfl (mx_kadd (by decide : Int32.ofInt 1 = (1 : Int32))) (by decide) (lv' := [(5, _), (2, _), (4, _), (6, _), (0, _), (1, _)]) rfl ?_
        refine mx_goto (pc := 82) 19 (mx_dd dd_X12_nameAt 45 (82, .goto (-63), 3) rfl) rfl ?_
        refine mx_sel [4, 5, 1, 2, 0] rfl ?_
        exact P
      · have P := P.2 c65
        refine mx_iload (pc := 68) 1 (mx_dd dd_X12_nameAt 38 (68, .iload 6, 2) rfl) rfl ?_
        refine mx_cSL (pc := 70) (Y := mY_X12_valueOf) (As := [.int _]) mx_ml_X12_93 mx_y_X12_valueOf rfl rfl (by simp [Value.category]) rfl (mx_dd dd_X12_nameAt 39 (70, .invokestatic 93, 3) rfl) g11 (by decide) P (fun v2 h2 P => ?_)
        refine mx_goto (pc := 73) 77 (mx_dd dd_X12_nameAt 40 (73, .goto 4, 3) rfl) rfl ?_
        refine mx_ladd (pc := 77) (mx_dd dd_X12_nameAt 42 (77, .ladd, 1) rfl) ?_
        refine mx_lstore_n (pc := 78) (mx_dd dd_X12_nameAt 43 (78, .lstore_n 2, 1) rfl) rfl (by decide) (lv' := [(2, _), (4, _), (6, _), (0, _), (1, _), (5, _)]) rfl ?_
        refine mx_iinc (pc := 79) 5 (mx_dd dd_X12_nameAt 44 (79, .iinc 5 1, 3) rfl) rfl (mx_kadd (by decide : Int32.ofInt 1 = (1 : Int32))) (by decide) (lv' := [(5, _), (2, _), (4, _), (6, _), (0, _), (1, _)]) rfl ?_
        refine mx_goto (pc := 82) 19 (mx_dd dd_X12_nameAt 45 (82, .goto (-63), 3) rfl) rfl ?_
        refine mx_sel [4, 5, 1, 2, 0] rfl ?_
        exact P
theorem b_X12_nameAt_85 {d : Nat} {h : mxH} {Q : mxRes → mxH → Prop} (x2 : Int64) (x4 : Int32)
    (P : ((x4 = 0 → Q (.inl (some (.long (0 : Int64)))) h) ∧ (¬ x4 = 0 → Q (.inl (some (.long x2))) h))) : mx_SX mY_X12_nameAt d 85 [(2, .long x2), (4, .int x4)] [] h Q := by
  refine mx_iload (pc := 85) 1 (mx_dd dd_X12_nameAt 46 (85, .iload 4, 2) rfl) rfl ?_
  refine mx_if_eq (pc := 87) 94 (mx_dd dd_X12_nameAt 47 (87, .ifCond .eq 7, 3) rfl) rfl (fun c87 => ?_) (fun c87 => ?_)
  · have P := P.1 c87
    refine mx_lconst (pc := 94) (v := (0 : Int64)) (mx_dd dd_X12_nameAt 50 (94, .lconst 0, 1) rfl) (by decide) ?_
    exact mx_lreturn (pc := 95) (mx_dd dd_X12_nameAt 51 (95, .lreturn, 1) rfl) rfl P
  · have P := P.2 c87
    refine mx_lload_n (pc := 90) 0 (mx_dd dd_X12_nameAt 48 (90, .lload_n 2, 1) rfl) rfl rfl ?_
    refine mx_goto (pc := 91) 95 (mx_dd dd_X12_nameAt 49 (91, .goto 4, 3) rfl) rfl ?_
    exact mx_lreturn (pc := 95) (mx_dd dd_X12_nameAt 51 (95, .lreturn, 1) rfl) rfl P
theorem b_X12_numberAt {d : Nat} {h : mxH} {Q : mxRes → mxH → Prop} (x0 : Nat) (x1 : Int32)
    (P : hpK h x0 = 12 ∧ ∃ b1 : Nat, hpR h x0 76 = some b1 ∧ hpK h b1 = 14 ∧ vp_in x1 (hpZ h b1) ∧ 1 ≤ d ∧ mx_SM mY_X12_in (d - 1) [.int (hpI h b1 x1.toNatClampNeg), .int (1 : Int32), .int (5 : Int32)] h (mx_KI (fun v1 h1 => mx_SX mY_X12_numberAt d 17 [(0, .ref x0), (1, .int x1), (2, .int (0 : Int32)), (3, .int v1), (4, .int (0 : Int32))] [] h1 Q) (mx_XX mY_X12_numberAt Q))) : mx_SM mY_X12_numberAt d [.ref x0, .int x1] h Q := by
  refine mx_SM_of (by decide) (Nat.le_of_ble_eq_true rfl) ?_
  show mx_SX mY_X12_numberAt d 0 [(0, .ref x0), (1, .int x1)] [] h Q
  refine mx_iconst (pc := 0) (v := (0 : Int32)) (mx_dd dd_X12_numberAt 0 (0, .iconst 0, 1) rfl) (by decide) ?_
  refine mx_istore_n (pc := 1) (mx_dd dd_X12_numberAt 1 (1, .istore_n 2, 1) rfl) rfl (by decide) (lv' := [(2, _), (0, _), (1, _)]) rfl ?_
  refine mx_aload_n (pc := 2) 1 (mx_dd dd_X12_numberAt 2 (2, .aload_n 0, 1) rfl) rfl rfl ?_
  obtain ⟨g1, P⟩ := P
  obtain ⟨b1, g2, P⟩ := P
  refine mx_getR (pc := 3) mx_fl_X12_565 g1 rfl g2 (mx_dd dd_X12_numberAt 3 (3, .getfield 565, 3) rfl) ?_
  refine mx_iload_n (pc := 6) 2 (mx_dd dd_X12_numberAt 4 (6, .iload_n 1, 1) rfl) rfl rfl ?_
  obtain ⟨g3, P⟩ := P
  obtain ⟨g4, P⟩ := P
  refine mx_iald (pc := 7) g3 g4 (mx_dd dd_X12_numberAt 5 (7, .iaload, 1) rfl) ?_
  refine mx_iconst (pc := 8) (v := (1 : Int32)) (mx_dd dd_X12_numberAt 6 (8, .iconst 1, 1) rfl) (by decide) ?_
  refine mx_iconst (pc := 9) (v := (5 : Int32)) (mx_dd dd_X12_numberAt 7 (9, .iconst 5, 1) rfl) (by decide) ?_
  obtain ⟨g5, P⟩ := P
  refine mx_cSI (pc := 10) (Y := mY_X12_in) (As := [.int _, .int _, .int _]) mx_ml_X12_571 mx_y_X12_in rfl rfl (by decide) rfl (mx_dd dd_X12_numberAt 8 (10, .invokestatic 571, 3) rfl) g5 (by decide) P (fun v1 h1 P => ?_)
  refine mx_istore_n (pc := 13) (mx_dd dd_X12_numberAt 9 (13, .istore_n 3, 1) rfl) rfl (by decide) (lv' := [(3, _), (2, _), (0, _), (1, _)]) rfl ?_
  refine mx_iconst (pc := 14) (v := (0 : Int32)) (mx_dd dd_X12_numberAt 10 (14, .iconst 0, 1) rfl) (by decide) ?_
  refine mx_istore (pc := 15) (mx_dd dd_X12_numberAt 11 (15, .istore 4, 2) rfl) (by decide) (lv' := [(4, _), (3, _), (2, _), (0, _), (1, _)]) rfl ?_
  refine mx_sel [3, 4, 2, 1, 0] rfl ?_
  exact P
theorem b_X12_numberAt_17 {d : Nat} {h : mxH} {Q : mxRes → mxH → Prop} (x0 : Nat) (x1 : Int32) (x2 : Int32) (x3 : Int32) (x4 : Int32)
    (P : hpK h x0 = 12 ∧ ∃ b1 : Nat, hpR h x0 76 = some b1 ∧ hpK h b1 = 14 ∧ vp_in x1 (hpZ h b1) ∧ (((hpI h b1 x1.toNatClampNeg) ≤ x4 → mx_SX mY_X12_numberAt d 85 [(2, .int x2), (3, .int x3)] [] h Q) ∧ (¬ (hpI h b1 x1.toNatClampNeg) ≤ x4 → ((x3 = 0 → mx_SX mY_X12_numberAt d 85 [(2, .int x2), (3, .int x3)] [] h Q) ∧ (¬ x3 = 0 → ∃ b2 : Nat, hpR h x0 74 = some b2 ∧ ∃ b3 : Nat, hpR h x0 75 = some b3 ∧ hpK h b3 = 14 ∧ vp_in x1 (hpZ h b3) ∧ hpK h b2 = 13 ∧ vp_in ((hpI h b3 x1.toNatClampNeg) + x4) (hpZ h b2) ∧ (((hpI h b2 ((hpI h b3 x1.toNatClampNeg) + x4).toNatClampNeg) < (48 : Int32) → mx_SX mY_X12_numberAt d 66 [(0, .ref x0), (1, .int x1), (2, .int x2), (4, .int x4), (5, .int (hpI h b2 ((hpI h b3 x1.toNatClampNeg) + x4).toNatClampNeg))] [] h Q) ∧ (¬ (hpI h b2 ((hpI h b3 x1.toNatClampNeg) + x4).toNatClampNeg) < (48 : Int32) → (((57 : Int32) < (hpI h b2 ((hpI h b3 x1.toNatClampNeg) + x4).toNatClampNeg) → mx_SX mY_X12_numberAt d 66 [(0, .ref x0), (1, .int x1), (2, .int x2), (4, .int x4), (5, .int (hpI h b2 ((hpI h b3 x1.toNatClampNeg) + x4).toNatClampNeg))] [] h Q) ∧ (¬ (57 : Int32) < (hpI h b2 ((hpI h b3 x1.toNatClampNeg) + x4).toNatClampNeg) → mx_SX mY_X12_numberAt d 17 [(0, .ref x0), (1, .int x1), (2, .int ((((10 : Int32) * x2) + (hpI h b2 ((hpI h b3 x1.toNatClampNeg) + x4).toNatClampNeg)) - (48 : Int32))), (3, .int (1 : Int32)), (4, .int (x4 + (1 : Int32)))] [] h Q))))))))) : mx_SX mY_X12_numberAt d 17 [(0, .ref x0), (1, .int x1), (2, .int x2), (3, .int x3), (4, .int x4)] [] h Q := by
  refine mx_iload (pc := 17) 4 (mx_dd dd_X12_numberAt 12 (17, .iload 4, 2) rfl) rfl ?_
  refine mx_aload_n (pc := 19) 0 (mx_dd dd_X12_numberAt 13 (19, .aload_n 0, 1) rfl) rfl rfl ?_
  obtain ⟨g1, P⟩ := P
  obtain ⟨b1, g2, P⟩ := P
  refine mx_getR (pc := 20) mx_fl_X12_565 g1 rfl g2 (mx_dd dd_X12_numberAt 14 (20, .getfield 565, 3) rfl) ?_
  refine mx_iload_n (pc := 23) 1 (mx_dd dd_X12_numberAt 15 (23, .iload_n 1, 1) rfl) rfl rfl ?_
  obtain ⟨g3, P⟩ := P
  obtain ⟨g4, P⟩ := P
  refine mx_iald (pc := 24) g3 g4 (mx_dd dd_X12_numberAt 16 (24, .iaload, 1) rfl) ?_
  refine mx_icmp_ge (pc := 25) 85 (mx_dd dd_X12_numberAt 17 (25, .if_icmp .ge 60, 3) rfl) rfl (fun c25 => ?_) (fun c25 => ?_)
  · have P := P.1 c25
    refine mx_sel [2, 3] rfl ?_
    exact P
  · have P := P.2 c25
    refine mx_iload_n (pc := 28) 3 (mx_dd dd_X12_numberAt 18 (28, .iload_n 3, 1) rfl) rfl rfl ?_
    refine mx_if_eq (pc := 29) 85 (mx_dd dd_X12_numberAt 19 (29, .ifCond .eq 56, 3) rfl) rfl (fun c29 => ?_) (fun c29 => ?_)
    · have P := P.1 c29
      refine mx_sel [2, 3] rfl ?_
      exact P
    · have P := P.2 c29
      refine mx_aload_n (pc := 32) 0 (mx_dd dd_X12_numberAt 20 (32, .aload_n 0, 1) rfl) rfl rfl ?_
      obtain ⟨b2, g5, P⟩ := P
      refine mx_getR (pc := 33) mx_fl_X12_550 g1 rfl g5 (mx_dd dd_X12_numberAt 21 (33, .getfield 550, 3) rfl) ?_
      refine mx_aload_n (pc := 36) 0 (mx_dd dd_X12_numberAt 22 (36, .aload_n 0, 1) rfl) rfl rfl ?_
      obtain ⟨b3, g6, P⟩ := P
      refine mx_getR (pc := 37) mx_fl_X12_559 g1 rfl g6 (mx_dd dd_X12_numberAt 23 (37, .getfield 559, 3) rfl) ?_
      refine mx_iload_n (pc := 40) 1 (mx_dd dd_X12_numberAt 24 (40, .iload_n 1, 1) rfl) rfl rfl ?_
      obtain ⟨g7, P⟩ := P
      obtain ⟨g8, P⟩ := P
      refine mx_iald (pc := 41) g7 g8 (mx_dd dd_X12_numberAt 25 (41, .iaload, 1) rfl) ?_
      refine mx_iload (pc := 42) 4 (mx_dd dd_X12_numberAt 26 (42, .iload 4, 2) rfl) rfl ?_
      refine mx_iadd (pc := 44) (mx_dd dd_X12_numberAt 27 (44, .iadd, 1) rfl) ?_
      obtain ⟨g9, P⟩ := P
      obtain ⟨g10, P⟩ := P
      refine mx_bald (pc := 45) g9 g10 (mx_dd dd_X12_numberAt 28 (45, .baload, 1) rfl) ?_
      refine mx_istore (pc := 46) (mx_dd dd_X12_numberAt 29 (46, .istore 5, 2) rfl) (by decide) (lv' := [(5, _), (0, _), (1, _), (2, _), (3, _), (4, _)]) rfl ?_
      refine mx_iload (pc := 48) 0 (mx_dd dd_X12_numberAt 30 (48, .iload 5, 2) rfl) rfl ?_
      refine mx_bipush (pc := 50) (v := (48 : Int32)) (mx_dd dd_X12_numberAt 31 (50, .bipush 48, 2) rfl) (by decide) ?_
      refine mx_icmp_lt (pc := 52) 66 (mx_dd dd_X12_numberAt 32 (52, .if_icmp .lt 14, 3) rfl) rfl (fun c52 => ?_) (fun c52 => ?_)
      · have P := P.1 c52
        refine mx_sel [1, 2, 3, 5, 0] rfl ?_
        exact P
      · have P := P.2 c52
        refine mx_iload (pc := 55) 0 (mx_dd dd_X12_numberAt 33 (55, .iload 5, 2) rfl) rfl ?_
        refine mx_bipush (pc := 57) (v := (57 : Int32)) (mx_dd dd_X12_numberAt 34 (57, .bipush 57, 2) rfl) (by decide) ?_
        refine mx_icmp_gt (pc := 59) 66 (mx_dd dd_X12_numberAt 35 (59, .if_icmp .gt 7, 3) rfl) rfl (fun c59 => ?_) (fun c59 => ?_)
        · have P := P.1 c59
          refine mx_sel [1, 2, 3, 5, 0] rfl ?_
          exact P
        · have P := P.2 c59
          refine mx_iconst (pc := 62) (v := (1 : Int32)) (mx_dd dd_X12_numberAt 36 (62, .iconst 1, 1) rfl) (by decide) ?_
          refine mx_goto (pc := 63) 67 (mx_dd dd_X12_numberAt 37 (63, .goto 4, 3) rfl) rfl ?_
          refine mx_istore_n (pc := 67) (mx_dd dd_X12_numberAt 39 (67, .istore_n 3, 1) rfl) rfl (by decide) (lv' := [(3, _), (5, _), (0, _), (1, _), (2, _), (4, _)]) rfl ?_
          refine mx_bipush (pc := 68) (v := (10 : Int32)) (mx_dd dd_X12_numberAt 40 (68, .bipush 10, 2) rfl) (by decide) ?_
          refine mx_iload_n (pc := 70) 4 (mx_dd dd_X12_numberAt 41 (70, .iload_n 2, 1) rfl) rfl rfl ?_
          refine mx_imul (pc := 71) (mx_dd dd_X12_numberAt 42 (71, .imul, 1) rfl) ?_
          refine mx_iload (pc := 72) 1 (mx_dd dd_X12_numberAt 43 (72, .iload 5, 2) rfl) rfl ?_
          refine mx_iadd (pc := 74) (mx_dd dd_X12_numberAt 44 (74, .iadd, 1) rfl) ?_
          refine mx_bipush (pc := 75) (v := (48 : Int32)) (mx_dd dd_X12_numberAt 45 (75, .bipush 48, 2) rfl) (by decide) ?_
          refine mx_isub (pc := 77) (mx_dd dd_X12_numberAt 46 (77, .isub, 1) rfl) ?_
          refine mx_istore_n (pc := 78) (mx_dd dd_X12_numberAt 47 (78, .istore_n 2, 1) rfl) rfl (by decide) (lv' := [(2, _), (3, _), (5, _), (0, _), (1, _), (4, _)]) rfl ?_
          refine mx_iinc (pc := 79) 5 (mx_dd dd_X12_numberAt 48 (79, .iinc 4 1, 3) rfl) rfl (mx_kadd (by decide : Int32.ofInt 1 = (1 : Int32))) (by decide) (lv' := [(4, _), (2, _), (3, _), (5, _), (0, _), (1, _)]) rfl ?_
          refine mx_goto (pc := 82) 17 (mx_dd dd_X12_numberAt 49 (82, .goto (-65), 3) rfl) rfl ?_
          refine mx_sel [4, 5, 1, 2, 0] rfl ?_
          exact P
theorem b_X12_numberAt_66 {d : Nat} {h : mxH} {Q : mxRes → mxH → Prop} (x0 : Nat) (x1 : Int32) (x2 : Int32) (x4 : Int32) (x5 : Int32)
    (P : mx_SX mY_X12_numberAt d 17 [(0, .ref x0), (1, .int x1), (2, .int ((((10 : Int32) * x2) + x5) - (48 : Int32))), (3, .int (0 : Int32)), (4, .int (x4 + (1 : Int32)))] [] h Q) : mx_SX mY_X12_numberAt d 66 [(0, .ref x0), (1, .int x1), (2, .int x2), (4, .int x4), (5, .int x5)] [] h Q := by
  refine mx_iconst (pc := 66) (v := (0 : Int32)) (mx_dd dd_X12_numberAt 38 (66, .iconst 0, 1) rfl) (by decide) ?_
  refine mx_istore_n (pc := 67) (mx_dd dd_X12_numberAt 39 (67, .istore_n 3, 1) rfl) rfl (by decide) (lv' := [(3, _), (0, _), (1, _), (2, _), (4, _), (5, _)]) rfl ?_
  refine mx_bipush (pc := 68) (v := (10 : Int32)) (mx_dd dd_X12_numberAt 40 (68, .bipush 10, 2) rfl) (by decide) ?_
  refine mx_iload_n (pc := 70) 3 (mx_dd dd_X12_numberAt 41 (70, .iload_n 2, 1) rfl) rfl rfl ?_
  refine mx_imul (pc := 71) (mx_dd dd_X12_numberAt 42 (71, .imul, 1) rfl) ?_
  refine mx_iload (pc := 72) 5 (mx_dd dd_X12_numberAt 43 (72, .iload 5, 2) rfl) rfl ?_
  refine mx_iadd (pc := 74) (mx_dd dd_X12_numberAt 44 (74, .iadd, 1) rfl) ?_
  refine mx_bipush (pc := 75) (v := (48 : Int32)) (mx_dd dd_X12_numberAt 45 (75, .bipush 48, 2) rfl) (by decide) ?_
  refine mx_isub (pc := 77) (mx_dd dd_X12_numberAt 46 (77, .isub, 1) rfl) ?_
  refine mx_istore_n (pc := 78) (mx_dd dd_X12_numberAt 47 (78, .istore_n 2, 1) rfl) rfl (by decide) (lv' := [(2, _), (3, _), (0, _), (1, _), (4, _), (5, _)]) rfl ?_
  refine mx_iinc (pc := 79) 4 (mx_dd dd_X12_numberAt 48 (79, .iinc 4 1, 3) rfl) rfl (mx_kadd (by decide : Int32.ofInt 1 = (1 : Int32))) (by decide) (lv' := [(4, _), (2, _), (3, _), (0, _), (1, _), (5, _)]) rfl ?_
  refine mx_goto (pc := 82) 17 (mx_dd dd_X12_numberAt 49 (82, .goto (-65), 3) rfl) rfl ?_
  refine mx_sel [3, 4, 1, 2, 0] rfl ?_
  exact P
theorem b_X12_numberAt_85 {d : Nat} {h : mxH} {Q : mxRes → mxH → Prop} (x2 : Int32) (x3 : Int32)
    (P : ((x3 = 0 → Q (.inl (some (.int (-1 : Int32)))) h) ∧ (¬ x3 = 0 → Q (.inl (some (.int x2))) h))) : mx_SX mY_X12_numberAt d 85 [(2, .int x2), (3, .int x3)] [] h Q := by
  refine mx_iload_n (pc := 85) 1 (mx_dd dd_X12_numberAt 50 (85, .iload_n 3, 1) rfl) rfl rfl ?_
  refine mx_if_eq (pc := 86) 93 (mx_dd dd_X12_numberAt 51 (86, .ifCond .eq 7, 3) rfl) rfl (fun c86 => ?_) (fun c86 => ?_)
  · have P := P.1 c86
    refine mx_iconst (pc := 93) (v := (-1 : Int32)) (mx_dd dd_X12_numberAt 54 (93, .iconst (-1), 1) rfl) (by decide) ?_
    exact mx_ireturn (pc := 94) (mx_dd dd_X12_numberAt 55 (94, .ireturn, 1) rfl) rfl rfl P
  · have P := P.2 c86
    refine mx_iload_n (pc := 89) 0 (mx_dd dd_X12_numberAt 52 (89, .iload_n 2, 1) rfl) rfl rfl ?_
    refine mx_goto (pc := 90) 94 (mx_dd dd_X12_numberAt 53 (90, .goto 4, 3) rfl) rfl ?_
    exact mx_ireturn (pc := 94) (mx_dd dd_X12_numberAt 55 (94, .ireturn, 1) rfl) rfl rfl P
theorem b_X12_assignsArgument {d : Nat} {h : mxH} {Q : mxRes → mxH → Prop} (x0 : Nat) (x1 : Int32) (x2 : Int32)
    (P : 1 ≤ d ∧ hpK h x0 = 12 ∧ mx_SM mY_X12_evaluatesAll (d - 1) [.ref x0, .int x1, .int x2] h (mx_KV (fun h1 => hpK h1 x0 = 12 ∧ ∃ b1 : Nat, hpR h1 x0 40 = some b1 ∧ hpK h1 b1 = 15 ∧ vp_in x2 (hpZ h1 b1) ∧ mx_SM mY_X12_variableOf (d - 1) [.ref x0, .int x1, .long (hpL h1 b1 x2.toNatClampNeg)] h1 (mx_KI (fun v1 h2 => ((¬ v1 = (-1 : Int32) → mx_SX mY_X12_assignsArgument d 32 [(0, .ref x0), (1, .int x1), (2, .int x2)] [] h2 Q) ∧ (v1 = (-1 : Int32) → hpK h2 x0 = 12 ∧ mx_SM mY_X12_of (d - 1) [.ref x0, .int x1, .int (0 : Int32)] h2 (mx_KI (fun v2 h3 => (((20 : Int32) ≤ v2 → (((0 : Int32) = 0 → mx_SX mY_X12_assignsArgument d 69 [(0, .ref x0), (1, .int x1), (3, .int (0 : Int32))] [] h3 Q) ∧ (¬ (0 : Int32) = 0 → hpK h3 x0 = 12 ∧ ∃ b2 : Nat, hpR h3 x0 40 = some b2 ∧ hpK h3 b2 = 15 ∧ vp_in x2 (hpZ h3 b2) ∧ ∃ b3 : Nat, hpR h3 x0 74 = some b3 ∧ ∃ b4 : Nat, hpR h3 x0 76 = some b4 ∧ hpK h3 b4 = 14 ∧ vp_in (0 : Int32) (hpZ h3 b4) ∧ mx_SM mY_X12_lineOf (d - 1) [.ref x0, .ref b3, .int (0 : Int32), .int (hpI h3 b4 (0 : Int32).toNatClampNeg)] h3 (mx_KI (fun v3 h4 => hpK h4 x0 = 12 ∧ mx_SM mY_X12_assigns (d - 1) [.ref x0, .int x1, .long (hpL h3 b2 x2.toNatClampNeg), .int v3] h4 (mx_KI (fun v4 h5 => mx_SX mY_X12_assignsArgument d 69 [(0, .ref x0), (1, .int x1), (3, .int v4)] [] h5 Q) (mx_XX mY_X12_assignsArgument Q))) (mx_XX mY_X12_assignsArgument Q))))) ∧ (¬ (20 : Int32) ≤ v2 → mx_SX mY_X12_assignsArgument d 32 [(0, .ref x0), (1, .int x1), (2, .int x2)] [] h3 Q))) (mx_XX mY_X12_assignsArgument Q))))) (mx_XX mY_X12_assignsArgument Q))) (mx_XX mY_X12_assignsArgument Q))) : mx_SM mY_X12_assignsArgument d [.ref x0, .int x1, .int x2] h Q := by
  refine mx_SM_of (by decide) (Nat.le_of_ble_eq_true rfl) ?_
  show mx_SX mY_X12_assignsArgument d 0 [(0, .ref x0), (1, .int x1), (2, .int x2)] [] h Q
  refine mx_aload_n (pc := 0) 0 (mx_dd dd_X12_assignsArgument 0 (0, .aload_n 0, 1) rfl) rfl rfl ?_
  refine mx_iload_n (pc := 1) 1 (mx_dd dd_X12_assignsArgument 1 (1, .iload_n 1, 1) rfl) rfl rfl ?_
  refine mx_iload_n (pc := 2) 2 (mx_dd dd_X12_assignsArgument 2 (2, .iload_n 2, 1) rfl) rfl rfl ?_
  obtain ⟨g1, P⟩ := P
  obtain ⟨g2, P⟩ := P
  refine mx_cVV (pc := 3) (Y := mY_X12_evaluatesAll) (As := [.int _, .int _]) mx_ml_X12_575 mx_y_X12_evaluatesAll rfl g2 (by decide) rfl (by decide) rfl (mx_dd dd_X12_assignsArgument 3 (3, .invokevirtual 575, 3) rfl) g1 (by decide) P (fun h1 P => ?_)
  refine mx_aload_n (pc := 6) 0 (mx_dd dd_X12_assignsArgument 4 (6, .aload_n 0, 1) rfl) rfl rfl ?_
  refine mx_iload_n (pc := 7) 1 (mx_dd dd_X12_assignsArgument 5 (7, .iload_n 1, 1) rfl) rfl rfl ?_
  refine mx_aload_n (pc := 8) 0 (mx_dd dd_X12_assignsArgument 6 (8, .aload_n 0, 1) rfl) rfl rfl ?_
  obtain ⟨g3, P⟩ := P
  obtain ⟨b1, g4, P⟩ := P
  refine mx_getR (pc := 9) mx_fl_X12_299 g3 rfl g4 (mx_dd dd_X12_assignsArgument 7 (9, .getfield 299, 3) rfl) ?_
  refine mx_iload_n (pc := 12) 2 (mx_dd dd_X12_assignsArgument 8 (12, .iload_n 2, 1) rfl) rfl rfl ?_
  obtain ⟨g5, P⟩ := P
  obtain ⟨g6, P⟩ := P
  refine mx_lald (pc := 13) g5 g6 (mx_dd dd_X12_assignsArgument 9 (13, .laload, 1) rfl) ?_
  refine mx_cVI (pc := 14) (Y := mY_X12_variableOf) (As := [.int _, .long _]) mx_ml_X12_433 mx_y_X12_variableOf rfl g3 (by decide) rfl (by decide) rfl (mx_dd dd_X12_assignsArgument 10 (14, .invokevirtual 433, 3) rfl) g1 (by decide) P (fun v1 h2 P => ?_)
  refine mx_iconst (pc := 17) (v := (-1 : Int32)) (mx_dd dd_X12_assignsArgument 11 (17, .iconst (-1), 1) rfl) (by decide) ?_
  refine mx_icmp_ne (pc := 18) 32 (mx_dd dd_X12_assignsArgument 12 (18, .if_icmp .ne 14, 3) rfl) rfl (fun c18 => ?_) (fun c18 => ?_)
  · have P := P.1 c18
    exact P
  · have P := P.2 c18
    refine mx_aload_n (pc := 21) 0 (mx_dd dd_X12_assignsArgument 13 (21, .aload_n 0, 1) rfl) rfl rfl ?_
    refine mx_iload_n (pc := 22) 1 (mx_dd dd_X12_assignsArgument 14 (22, .iload_n 1, 1) rfl) rfl rfl ?_
    refine mx_iconst (pc := 23) (v := (0 : Int32)) (mx_dd dd_X12_assignsArgument 15 (23, .iconst 0, 1) rfl) (by decide) ?_
    obtain ⟨g7, P⟩ := P
    refine mx_cVI (pc := 24) (Y := mY_X12_of) (As := [.int _, .int _]) mx_ml_X12_416 mx_y_X12_of rfl g7 (by decide) rfl (by decide) rfl (mx_dd dd_X12_assignsArgument 16 (24, .invokevirtual 416, 3) rfl) g1 (by decide) P (fun v2 h3 P => ?_)
    refine mx_bipush (pc := 27) (v := (20 : Int32)) (mx_dd dd_X12_assignsArgument 17 (27, .bipush 20, 2) rfl) (by decide) ?_
    refine mx_icmp_ge (pc := 29) 36 (mx_dd dd_X12_assignsArgument 18 (29, .if_icmp .ge 7, 3) rfl) rfl (fun c29 => ?_) (fun c29 => ?_)
    · have P := P.1 c29
      refine mx_iconst (pc := 36) (v := (0 : Int32)) (mx_dd dd_X12_assignsArgument 21 (36, .iconst 0, 1) rfl) (by decide) ?_
      refine mx_istore_n (pc := 37) (mx_dd dd_X12_assignsArgument 22 (37, .istore_n 3, 1) rfl) rfl (by decide) (lv' := [(3, _), (0, _), (1, _), (2, _)]) rfl ?_
      refine mx_iload_n (pc := 38) 0 (mx_dd dd_X12_assignsArgument 23 (38, .iload_n 3, 1) rfl) rfl rfl ?_
      refine mx_if_eq (pc := 39) 69 (mx_dd dd_X12_assignsArgument 24 (39, .ifCond .eq 30, 3) rfl) rfl (fun c39 => ?_) (fun c39 => ?_)
      · have P := P.1 c39
        refine mx_sel [1, 2, 0] rfl ?_
        exact P
      · have P := P.2 c39
        refine mx_aload_n (pc := 42) 1 (mx_dd dd_X12_assignsArgument 25 (42, .aload_n 0, 1) rfl) rfl rfl ?_
        refine mx_iload_n (pc := 43) 2 (mx_dd dd_X12_assignsArgument 26 (43, .iload_n 1, 1) rfl) rfl rfl ?_
        refine mx_aload_n (pc := 44) 1 (mx_dd dd_X12_assignsArgument 27 (44, .aload_n 0, 1) rfl) rfl rfl ?_
        obtain ⟨g8, P⟩ := P
        obtain ⟨b2, g9, P⟩ := P
        refine mx_getR (pc := 45) mx_fl_X12_299 g8 rfl g9 (mx_dd dd_X12_assignsArgument 28 (45, .getfield 299, 3) rfl) ?_
        refine mx_iload_n (pc := 48) 3 (mx_dd dd_X12_assignsArgument 29 (48, .iload_n 2, 1) rfl) rfl rfl ?_
        obtain ⟨g10, P⟩ := P
        obtain ⟨g11, P⟩ := P
        refine mx_lald (pc := 49) g10 g11 (mx_dd dd_X12_assignsArgument 30 (49, .laload, 1) rfl) ?_
        refine mx_aload_n (pc := 50) 1 (mx_dd dd_X12_assignsArgument 31 (50, .aload_n 0, 1) rfl) rfl rfl ?_
        refine mx_aload_n (pc := 51) 1 (mx_dd dd_X12_assignsArgument 32 (51, .aload_n 0, 1) rfl) rfl rfl ?_
        obtain ⟨b3, g12, P⟩ := P
        refine mx_getR (pc := 52) mx_fl_X12_550 g8 rfl g12 (mx_dd dd_X12_assignsArgument 33 (52, .getfield 550, 3) rfl) ?_
        refine mx_iconst (pc := 55) (v := (0 : Int32)) (mx_dd dd_X12_assignsArgument 34 (55, .iconst 0, 1) rfl) (by decide) ?_
        refine mx_aload_n (pc := 56) 1 (mx_dd dd_X12_assignsArgument 35 (56, .aload_n 0, 1) rfl) rfl rfl ?_
        obtain ⟨b4, g13, P⟩ := P
        refine mx_getR (pc := 57) mx_fl_X12_565 g8 rfl g13 (mx_dd dd_X12_assignsArgument 36 (57, .getfield 565, 3) rfl) ?_
        refine mx_iconst (pc := 60) (v := (0 : Int32)) (mx_dd dd_X12_assignsArgument 37 (60, .iconst 0, 1) rfl) (by decide) ?_
        obtain ⟨g14, P⟩ := P
        obtain ⟨g15, P⟩ := P
        refine mx_iald (pc := 61) g14 g15 (mx_dd dd_X12_assignsArgument 38 (61, .iaload, 1) rfl) ?_
        refine mx_cVI (pc := 62) (Y := mY_X12_lineOf) (As := [.ref _, .int _, .int _]) mx_ml_X12_578 mx_y_X12_lineOf rfl g8 (by decide) rfl (by simp [Value.category]) rfl (mx_dd dd_X12_assignsArgument 39 (62, .invokevirtual 578, 3) rfl) g1 (by decide) P (fun v3 h4 P => ?_)
        obtain ⟨g16, P⟩ := P
        refine mx_cVI (pc := 65) (Y := mY_X12_assigns) (As := [.int _, .long _, .int _]) mx_ml_X12_582 mx_y_X12_assigns rfl g16 (by decide) rfl (by decide) rfl (mx_dd dd_X12_assignsArgument 40 (65, .invokevirtual 582, 3) rfl) g1 (by decide) P (fun v4 h5 P => ?_)
        refine mx_istore_n (pc := 68) (mx_dd dd_X12_assignsArgument 41 (68, .istore_n 3, 1) rfl) rfl (by decide) (lv' := [(3, _), (0, _), (1, _), (2, _)]) rfl ?_
        refine mx_sel [1, 2, 0] rfl ?_
        exact P
    · have P := P.2 c29
      exact P
theorem b_X12_assignsArgument_32 {d : Nat} {h : mxH} {Q : mxRes → mxH → Prop} (x0 : Nat) (x1 : Int32) (x2 : Int32)
    (P : (((1 : Int32) = 0 → mx_SX mY_X12_assignsArgument d 69 [(0, .ref x0), (1, .int x1), (3, .int (1 : Int32))] [] h Q) ∧ (¬ (1 : Int32) = 0 → hpK h x0 = 12 ∧ ∃ b1 : Nat, hpR h x0 40 = some b1 ∧ hpK h b1 = 15 ∧ vp_in x2 (hpZ h b1) ∧ ∃ b2 : Nat, hpR h x0 74 = some b2 ∧ ∃ b3 : Nat, hpR h x0 76 = some b3 ∧ hpK h b3 = 14 ∧ vp_in (0 : Int32) (hpZ h b3) ∧ 1 ≤ d ∧ mx_SM mY_X12_lineOf (d - 1) [.ref x0, .ref b2, .int (0 : Int32), .int (hpI h b3 (0 : Int32).toNatClampNeg)] h (mx_KI (fun v1 h1 => hpK h1 x0 = 12 ∧ mx_SM mY_X12_assigns (d - 1) [.ref x0, .int x1, .long (hpL h b1 x2.toNatClampNeg), .int v1] h1 (mx_KI (fun v2 h2 => mx_SX mY_X12_assignsArgument d 69 [(0, .ref x0), (1, .int x1), (3, .int v2)] [] h2 Q) (mx_XX mY_X12_assignsArgument Q))) (mx_XX mY_X12_assignsArgument Q))))) : mx_SX mY_X12_assignsArgument d 32 [(0, .ref x0), (1, .int x1), (2, .int x2)] [] h Q := by
  refine mx_iconst (pc := 32) (v := (1 : Int32)) (mx_dd dd_X12_assignsArgument 19 (32, .iconst 1, 1) rfl) (by decide) ?_
  refine mx_goto (pc := 33) 37 (mx_dd dd_X12_assignsArgument 20 (33, .goto 4, 3) rfl) rfl ?_
  refine mx_istore_n (pc := 37) (mx_dd dd_X12_assignsArgument 22 (37, .istore_n 3, 1) rfl) rfl (by decide) (lv' := [(3, _), (0, _), (1, _), (2, _)]) rfl ?_
  refine mx_iload_n (pc := 38) 0 (mx_dd dd_X12_assignsArgument 23 (38, .iload_n 3, 1) rfl) rfl rfl ?_
  refine mx_if_eq (pc := 39) 69 (mx_dd dd_X12_assignsArgument 24 (39, .ifCond .eq 30, 3) rfl) rfl (fun c39 => ?_) (fun c39 => ?_)
  · have P := P.1 c39
    refine mx_sel [1, 2, 0] rfl ?_
    exact P
  · have P := P.2 c39
    refine mx_aload_n (pc := 42) 1 (mx_dd dd_X12_assignsArgument 25 (42, .aload_n 0, 1) rfl) rfl rfl ?_
    refine mx_iload_n (pc := 43) 2 (mx_dd dd_X12_assignsArgument 26 (43, .iload_n 1, 1) rfl) rfl rfl ?_
    refine mx_aload_n (pc := 44) 1 (mx_dd dd_X12_assignsArgument 27 (44, .aload_n 0, 1) rfl) rfl rfl ?_
    obtain ⟨g1, P⟩ := P
    obtain ⟨b1, g2, P⟩ := P
    refine mx_getR (pc := 45) mx_fl_X12_299 g1 rfl g2 (mx_dd dd_X12_assignsArgument 28 (45, .getfield 299, 3) rfl) ?_
    refine mx_iload_n (pc := 48) 3 (mx_dd dd_X12_assignsArgument 29 (48, .iload_n 2, 1) rfl) rfl rfl ?_
    obtain ⟨g3, P⟩ := P
    obtain ⟨g4, P⟩ := P
    refine mx_lald (pc := 49) g3 g4 (mx_dd dd_X12_assignsArgument 30 (49, .laload, 1) rfl) ?_
    refine mx_aload_n (pc := 50) 1 (mx_dd dd_X12_assignsArgument 31 (50, .aload_n 0, 1) rfl) rfl rfl ?_
    refine mx_aload_n (pc := 51) 1 (mx_dd dd_X12_assignsArgument 32 (51, .aload_n 0, 1) rfl) rfl rfl ?_
    obtain ⟨b2, g5, P⟩ := P
    refine mx_getR (pc := 52) mx_fl_X12_550 g1 rfl g5 (mx_dd dd_X12_assignsArgument 33 (52, .getfield 550, 3) rfl) ?_
    refine mx_iconst (pc := 55) (v := (0 : Int32)) (mx_dd dd_X12_assignsArgument 34 (55, .iconst 0, 1) rfl) (by decide) ?_
    refine mx_aload_n (pc := 56) 1 (mx_dd dd_X12_assignsArgument 35 (56, .aload_n 0, 1) rfl) rfl rfl ?_
    obtain ⟨b3, g6, P⟩ := P
    refine mx_getR (pc := 57) mx_fl_X12_565 g1 rfl g6 (mx_dd dd_X12_assignsArgument 36 (57, .getfield 565, 3) rfl) ?_
    refine mx_iconst (pc := 60) (v := (0 : Int32)) (mx_dd dd_X12_assignsArgument 37 (60, .iconst 0, 1) rfl) (by decide) ?_
    obtain ⟨g7, P⟩ := P
    obtain ⟨g8, P⟩ := P
    refine mx_iald (pc := 61) g7 g8 (mx_dd dd_X12_assignsArgument 38 (61, .iaload, 1) rfl) ?_
    obtain ⟨g9, P⟩ := P
    refine mx_cVI (pc := 62) (Y := mY_X12_lineOf) (As := [.ref _, .int _, .int _]) mx_ml_X12_578 mx_y_X12_lineOf rfl g1 (by decide) rfl (by simp [Value.category]) rfl (mx_dd dd_X12_assignsArgument 39 (62, .invokevirtual 578, 3) rfl) g9 (by decide) P (fun v1 h1 P => ?_)
    obtain ⟨g10, P⟩ := P
    refine mx_cVI (pc := 65) (Y := mY_X12_assigns) (As := [.int _, .long _, .int _]) mx_ml_X12_582 mx_y_X12_assigns rfl g10 (by decide) rfl (by decide) rfl (mx_dd dd_X12_assignsArgument 40 (65, .invokevirtual 582, 3) rfl) g9 (by decide) P (fun v2 h2 P => ?_)
    refine mx_istore_n (pc := 68) (mx_dd dd_X12_assignsArgument 41 (68, .istore_n 3, 1) rfl) rfl (by decide) (lv' := [(3, _), (0, _), (1, _), (2, _)]) rfl ?_
    refine mx_sel [1, 2, 0] rfl ?_
    exact P
theorem b_X12_assignsArgument_69 {d : Nat} {h : mxH} {Q : mxRes → mxH → Prop} (x0 : Nat) (x1 : Int32) (x3 : Int32)
    (P : ((x3 = 0 → 1 ≤ d ∧ hpK h x0 = 12 ∧ mx_SM mY_X12_sets (d - 1) [.ref x0, .int x1, .int (33 : Int32), .int (1 : Int32)] h (mx_KV (fun h1 => Q (.inl none) h1) (mx_XX mY_X12_assignsArgument Q))) ∧ (¬ x3 = 0 → 1 ≤ d ∧ hpK h x0 = 12 ∧ mx_SM mY_X12_sets (d - 1) [.ref x0, .int x1, .int (33 : Int32), .int (0 : Int32)] h (mx_KV (fun h2 => Q (.inl none) h2) (mx_XX mY_X12_assignsArgument Q))))) : mx_SX mY_X12_assignsArgument d 69 [(0, .ref x0), (1, .int x1), (3, .int x3)] [] h Q := by
  refine mx_aload_n (pc := 69) 0 (mx_dd dd_X12_assignsArgument 42 (69, .aload_n 0, 1) rfl) rfl rfl ?_
  refine mx_iload_n (pc := 70) 1 (mx_dd dd_X12_assignsArgument 43 (70, .iload_n 1, 1) rfl) rfl rfl ?_
  refine mx_bipush (pc := 71) (v := (33 : Int32)) (mx_dd dd_X12_assignsArgument 44 (71, .bipush 33, 2) rfl) (by decide) ?_
  refine mx_iload_n (pc := 73) 2 (mx_dd dd_X12_assignsArgument 45 (73, .iload_n 3, 1) rfl) rfl rfl ?_
  refine mx_if_eq (pc := 74) 81 (mx_dd dd_X12_assignsArgument 46 (74, .ifCond .eq 7, 3) rfl) rfl (fun c74 => ?_) (fun c74 => ?_)
  · have P := P.1 c74
    refine mx_iconst (pc := 81) (v := (1 : Int32)) (mx_dd dd_X12_assignsArgument 49 (81, .iconst 1, 1) rfl) (by decide) ?_
    obtain ⟨g1, P⟩ := P
    obtain ⟨g2, P⟩ := P
    refine mx_cVV (pc := 82) (Y := mY_X12_sets) (As := [.int _, .int _, .int _]) mx_ml_X12_419 mx_y_X12_sets rfl g2 (by decide) rfl (by decide) rfl (mx_dd dd_X12_assignsArgument 50 (82, .invokevirtual 419, 3) rfl) g1 (by decide) P (fun h1 P => ?_)
    exact mx_return (pc := 85) (mx_dd dd_X12_assignsArgument 51 (85, .return_, 1) rfl) rfl P
  · have P := P.2 c74
    refine mx_iconst (pc := 77) (v := (0 : Int32)) (mx_dd dd_X12_assignsArgument 47 (77, .iconst 0, 1) rfl) (by decide) ?_
    refine mx_goto (pc := 78) 82 (mx_dd dd_X12_assignsArgument 48 (78, .goto 4, 3) rfl) rfl ?_
    obtain ⟨g3, P⟩ := P
    obtain ⟨g4, P⟩ := P
    refine mx_cVV (pc := 82) (Y := mY_X12_sets) (As := [.int _, .int _, .int _]) mx_ml_X12_419 mx_y_X12_sets rfl g4 (by decide) rfl (by decide) rfl (mx_dd dd_X12_assignsArgument 50 (82, .invokevirtual 419, 3) rfl) g3 (by decide) P (fun h2 P => ?_)
    exact mx_return (pc := 85) (mx_dd dd_X12_assignsArgument 51 (85, .return_, 1) rfl) rfl P
theorem b_X12_runsPlain {d : Nat} {h : mxH} {Q : mxRes → mxH → Prop} (x0 : Nat) (x1 : Int32) (x2 : Int32)
    (P : hpK h x0 = 12 ∧ ∃ b1 : Nat, hpR h x0 40 = some b1 ∧ hpK h b1 = 15 ∧ vp_in x2 (hpZ h b1) ∧ 1 ≤ d ∧ mx_SM mY_X12_isCommand (d - 1) [.ref x0, .long (hpL h b1 x2.toNatClampNeg)] h (mx_KI (fun v1 h1 => ((¬ v1 = 0 → hpK h1 x0 = 12 ∧ mx_SM mY_X12_evaluatesAll (d - 1) [.ref x0, .int x1, .int x2] h1 (mx_KV (fun h2 => hpK h2 x0 = 12 ∧ ((¬ (lg_cmp (hpL h b1 x2.toNatClampNeg) (hpL h2 x0 13)) = 0 → ((¬ (lg_cmp (hpL h b1 x2.toNatClampNeg) (hpL h2 x0 14)) = 0 → ((¬ (lg_cmp (hpL h b1 x2.toNatClampNeg) (hpL h2 x0 15)) = 0 → ((¬ (lg_cmp (hpL h b1 x2.toNatClampNeg) (hpL h2 x0 16)) = 0 → ((¬ (lg_cmp (hpL h b1 x2.toNatClampNeg) (hpL h2 x0 17)) = 0 → ((¬ (lg_cmp (hpL h b1 x2.toNatClampNeg) (hpL h2 x0 18)) = 0 → ((¬ (lg_cmp (hpL h b1 x2.toNatClampNeg) (hpL h2 x0 20)) = 0 → ((¬ (lg_cmp (hpL h b1 x2.toNatClampNeg) (hpL h2 x0 22)) = 0 → ((¬ (-1 : Int32) = (-1 : Int32) → mx_SX mY_X12_runsPlain d 262 [(0, .ref x0), (1, .int x1), (5, .int (-1 : Int32))] [] h2 Q) ∧ ((-1 : Int32) = (-1 : Int32) → ((¬ (lg_cmp (hpL h b1 x2.toNatClampNeg) (hpL h2 x0 19)) = 0 → ((¬ (lg_cmp (hpL h b1 x2.toNatClampNeg) (hpL h2 x0 21)) = 0 → ((¬ (lg_cmp (hpL h b1 x2.toNatClampNeg) (hpL h2 x0 24)) = 0 → mx_SM mY_X12_waits (d - 1) [.ref x0, .int x1, .int (0 : Int32)] h2 (mx_KI (fun v2 h3 => mx_SX mY_X12_runsPlain d 262 [(0, .ref x0), (1, .int x1), (5, .int v2)] [] h3 Q) (mx_XX mY_X12_runsPlain Q))) ∧ ((lg_cmp (hpL h b1 x2.toNatClampNeg) (hpL h2 x0 24)) = 0 → mx_SM mY_X12_waits (d - 1) [.ref x0, .int x1, .int (1 : Int32)] h2 (mx_KI (fun v3 h4 => mx_SX mY_X12_runsPlain d 262 [(0, .ref x0), (1, .int x1), (5, .int v3)] [] h4 Q) (mx_XX mY_X12_runsPlain Q))))) ∧ ((lg_cmp (hpL h b1 x2.toNatClampNeg) (hpL h2 x0 21)) = 0 → mx_SM mY_X12_raises (d - 1) [.ref x0, .int x1] h2 (mx_KI (fun v4 h5 => mx_SX mY_X12_runsPlain d 262 [(0, .ref x0), (1, .int x1), (5, .int v4)] [] h5 Q) (mx_XX mY_X12_runsPlain Q))))) ∧ ((lg_cmp (hpL h b1 x2.toNatClampNeg) (hpL h2 x0 19)) = 0 → mx_SM mY_X12_exits (d - 1) [.ref x0, .int x1] h2 (mx_KI (fun v5 h6 => mx_SX mY_X12_runsPlain d 262 [(0, .ref x0), (1, .int x1), (5, .int v5)] [] h6 Q) (mx_XX mY_X12_runsPlain Q))))))) ∧ ((lg_cmp (hpL h b1 x2.toNatClampNeg) (hpL h2 x0 22)) = 0 → mx_SM mY_X12_setsOption (d - 1) [.ref x0, .int x1] h2 (mx_KI (fun v6 h7 => ((¬ v6 = (-1 : Int32) → mx_SX mY_X12_runsPlain d 262 [(0, .ref x0), (1, .int x1), (5, .int v6)] [] h7 Q) ∧ (v6 = (-1 : Int32) → hpK h7 x0 = 12 ∧ ((¬ (lg_cmp (hpL h b1 x2.toNatClampNeg) (hpL h7 x0 19)) = 0 → ((¬ (lg_cmp (hpL h b1 x2.toNatClampNeg) (hpL h7 x0 21)) = 0 → ((¬ (lg_cmp (hpL h b1 x2.toNatClampNeg) (hpL h7 x0 24)) = 0 → mx_SM mY_X12_waits (d - 1) [.ref x0, .int x1, .int (0 : Int32)] h7 (mx_KI (fun v7 h8 => mx_SX mY_X12_runsPlain d 262 [(0, .ref x0), (1, .int x1), (5, .int v7)] [] h8 Q) (mx_XX mY_X12_runsPlain Q))) ∧ ((lg_cmp (hpL h b1 x2.toNatClampNeg) (hpL h7 x0 24)) = 0 → mx_SM mY_X12_waits (d - 1) [.ref x0, .int x1, .int (1 : Int32)] h7 (mx_KI (fun v8 h9 => mx_SX mY_X12_runsPlain d 262 [(0, .ref x0), (1, .int x1), (5, .int v8)] [] h9 Q) (mx_XX mY_X12_runsPlain Q))))) ∧ ((lg_cmp (hpL h b1 x2.toNatClampNeg) (hpL h7 x0 21)) = 0 → mx_SM mY_X12_raises (d - 1) [.ref x0, .int x1] h7 (mx_KI (fun v9 h10 => mx_SX mY_X12_runsPlain d 262 [(0, .ref x0), (1, .int x1), (5, .int v9)] [] h10 Q) (mx_XX mY_X12_runsPlain Q))))) ∧ ((lg_cmp (hpL h b1 x2.toNatClampNeg) (hpL h7 x0 19)) = 0 → mx_SM mY_X12_exits (d - 1) [.ref x0, .int x1] h7 (mx_KI (fun v10 h11 => mx_SX mY_X12_runsPlain d 262 [(0, .ref x0), (1, .int x1), (5, .int v10)] [] h11 Q) (mx_XX mY_X12_runsPlain Q))))))) (mx_XX mY_X12_runsPlain Q))))) ∧ ((lg_cmp (hpL h b1 x2.toNatClampNeg) (hpL h2 x0 20)) = 0 → mx_SM mY_X12_traps (d - 1) [.ref x0, .int x1] h2 (mx_KI (fun v11 h12 => ((¬ v11 = (-1 : Int32) → mx_SX mY_X12_runsPlain d 262 [(0, .ref x0), (1, .int x1), (5, .int v11)] [] h12 Q) ∧ (v11 = (-1 : Int32) → hpK h12 x0 = 12 ∧ ((¬ (lg_cmp (hpL h b1 x2.toNatClampNeg) (hpL h12 x0 19)) = 0 → ((¬ (lg_cmp (hpL h b1 x2.toNatClampNeg) (hpL h12 x0 21)) = 0 → ((¬ (lg_cmp (hpL h b1 x2.toNatClampNeg) (hpL h12 x0 24)) = 0 → mx_SM mY_X12_waits (d - 1) [.ref x0, .int x1, .int (0 : Int32)] h12 (mx_KI (fun v12 h13 => mx_SX mY_X12_runsPlain d 262 [(0, .ref x0), (1, .int x1), (5, .int v12)] [] h13 Q) (mx_XX mY_X12_runsPlain Q))) ∧ ((lg_cmp (hpL h b1 x2.toNatClampNeg) (hpL h12 x0 24)) = 0 → mx_SM mY_X12_waits (d - 1) [.ref x0, .int x1, .int (1 : Int32)] h12 (mx_KI (fun v13 h14 => mx_SX mY_X12_runsPlain d 262 [(0, .ref x0), (1, .int x1), (5, .int v13)] [] h14 Q) (mx_XX mY_X12_runsPlain Q))))) ∧ ((lg_cmp (hpL h b1 x2.toNatClampNeg) (hpL h12 x0 21)) = 0 → mx_SM mY_X12_raises (d - 1) [.ref x0, .int x1] h12 (mx_KI (fun v14 h15 => mx_SX mY_X12_runsPlain d 262 [(0, .ref x0), (1, .int x1), (5, .int v14)] [] h15 Q) (mx_XX mY_X12_runsPlain Q))))) ∧ ((lg_cmp (hpL h b1 x2.toNatClampNeg) (hpL h12 x0 19)) = 0 → mx_SM mY_X12_exits (d - 1) [.ref x0, .int x1] h12 (mx_KI (fun v15 h16 => mx_SX mY_X12_runsPlain d 262 [(0, .ref x0), (1, .int x1), (5, .int v15)] [] h16 Q) (mx_XX mY_X12_runsPlain Q))))))) (mx_XX mY_X12_runsPlain Q))))) ∧ ((lg_cmp (hpL h b1 x2.toNatClampNeg) (hpL h2 x0 18)) = 0 → ((¬ (hpI h2 x0 77) = 0 → ((¬ (2 : Int32) = (-1 : Int32) → mx_SX mY_X12_runsPlain d 262 [(0, .ref x0), (1, .int x1), (5, .int (2 : Int32))] [] h2 Q) ∧ ((2 : Int32) = (-1 : Int32) → ((¬ (lg_cmp (hpL h b1 x2.toNatClampNeg) (hpL h2 x0 19)) = 0 → ((¬ (lg_cmp (hpL h b1 x2.toNatClampNeg) (hpL h2 x0 21)) = 0 → ((¬ (lg_cmp (hpL h b1 x2.toNatClampNeg) (hpL h2 x0 24)) = 0 → mx_SM mY_X12_waits (d - 1) [.ref x0, .int x1, .int (0 : Int32)] h2 (mx_KI (fun v16 h17 => mx_SX mY_X12_runsPlain d 262 [(0, .ref x0), (1, .int x1), (5, .int v16)] [] h17 Q) (mx_XX mY_X12_runsPlain Q))) ∧ ((lg_cmp (hpL h b1 x2.toNatClampNeg) (hpL h2 x0 24)) = 0 → mx_SM mY_X12_waits (d - 1) [.ref x0, .int x1, .int (1 : Int32)] h2 (mx_KI (fun v17 h18 => mx_SX mY_X12_runsPlain d 262 [(0, .ref x0), (1, .int x1), (5, .int v17)] [] h18 Q) (mx_XX mY_X12_runsPlain Q))))) ∧ ((lg_cmp (hpL h b1 x2.toNatClampNeg) (hpL h2 x0 21)) = 0 → mx_SM mY_X12_raises (d - 1) [.ref x0, .int x1] h2 (mx_KI (fun v18 h19 => mx_SX mY_X12_runsPlain d 262 [(0, .ref x0), (1, .int x1), (5, .int v18)] [] h19 Q) (mx_XX mY_X12_runsPlain Q))))) ∧ ((lg_cmp (hpL h b1 x2.toNatClampNeg) (hpL h2 x0 19)) = 0 → mx_SM mY_X12_exits (d - 1) [.ref x0, .int x1] h2 (mx_KI (fun v19 h20 => mx_SX mY_X12_runsPlain d 262 [(0, .ref x0), (1, .int x1), (5, .int v19)] [] h20 Q) (mx_XX mY_X12_runsPlain Q))))))) ∧ ((hpI h2 x0 77) = 0 → ((¬ (0 : Int32) = (-1 : Int32) → mx_SX mY_X12_runsPlain d 262 [(0, .ref x0), (1, .int x1), (5, .int (0 : Int32))] [] h2 Q) ∧ ((0 : Int32) = (-1 : Int32) → ((¬ (lg_cmp (hpL h b1 x2.toNatClampNeg) (hpL h2 x0 19)) = 0 → ((¬ (lg_cmp (hpL h b1 x2.toNatClampNeg) (hpL h2 x0 21)) = 0 → ((¬ (lg_cmp (hpL h b1 x2.toNatClampNeg) (hpL h2 x0 24)) = 0 → mx_SM mY_X12_waits (d - 1) [.ref x0, .int x1, .int (0 : Int32)] h2 (mx_KI (fun v20 h21 => mx_SX mY_X12_runsPlain d 262 [(0, .ref x0), (1, .int x1), (5, .int v20)] [] h21 Q) (mx_XX mY_X12_runsPlain Q))) ∧ ((lg_cmp (hpL h b1 x2.toNatClampNeg) (hpL h2 x0 24)) = 0 → mx_SM mY_X12_waits (d - 1) [.ref x0, .int x1, .int (1 : Int32)] h2 (mx_KI (fun v21 h22 => mx_SX mY_X12_runsPlain d 262 [(0, .ref x0), (1, .int x1), (5, .int v21)] [] h22 Q) (mx_XX mY_X12_runsPlain Q))))) ∧ ((lg_cmp (hpL h b1 x2.toNatClampNeg) (hpL h2 x0 21)) = 0 → mx_SM mY_X12_raises (d - 1) [.ref x0, .int x1] h2 (mx_KI (fun v22 h23 => mx_SX mY_X12_runsPlain d 262 [(0, .ref x0), (1, .int x1), (5, .int v22)] [] h23 Q) (mx_XX mY_X12_runsPlain Q))))) ∧ ((lg_cmp (hpL h b1 x2.toNatClampNeg) (hpL h2 x0 19)) = 0 → mx_SM mY_X12_exits (d - 1) [.ref x0, .int x1] h2 (mx_KI (fun v23 h24 => mx_SX mY_X12_runsPlain d 262 [(0, .ref x0), (1, .int x1), (5, .int v23)] [] h24 Q) (mx_XX mY_X12_runsPlain Q))))))))))) ∧ ((lg_cmp (hpL h b1 x2.toNatClampNeg) (hpL h2 x0 17)) = 0 → mx_SM mY_X12_copies (d - 1) [.ref x0, .int x1] h2 (mx_KI (fun v24 h25 => ((¬ v24 = (-1 : Int32) → mx_SX mY_X12_runsPlain d 262 [(0, .ref x0), (1, .int x1), (5, .int v24)] [] h25 Q) ∧ (v24 = (-1 : Int32) → hpK h25 x0 = 12 ∧ ((¬ (lg_cmp (hpL h b1 x2.toNatClampNeg) (hpL h25 x0 19)) = 0 → ((¬ (lg_cmp (hpL h b1 x2.toNatClampNeg) (hpL h25 x0 21)) = 0 → ((¬ (lg_cmp (hpL h b1 x2.toNatClampNeg) (hpL h25 x0 24)) = 0 → mx_SM mY_X12_waits (d - 1) [.ref x0, .int x1, .int (0 : Int32)] h25 (mx_KI (fun v25 h26 => mx_SX mY_X12_runsPlain d 262 [(0, .ref x0), (1, .int x1), (5, .int v25)] [] h26 Q) (mx_XX mY_X12_runsPlain Q))) ∧ ((lg_cmp (hpL h b1 x2.toNatClampNeg) (hpL h25 x0 24)) = 0 → mx_SM mY_X12_waits (d - 1) [.ref x0, .int x1, .int (1 : Int32)] h25 (mx_KI (fun v26 h27 => mx_SX mY_X12_runsPlain d 262 [(0, .ref x0), (1, .int x1), (5, .int v26)] [] h27 Q) (mx_XX mY_X12_runsPlain Q))))) ∧ ((lg_cmp (hpL h b1 x2.toNatClampNeg) (hpL h25 x0 21)) = 0 → mx_SM mY_X12_raises (d - 1) [.ref x0, .int x1] h25 (mx_KI (fun v27 h28 => mx_SX mY_X12_runsPlain d 262 [(0, .ref x0), (1, .int x1), (5, .int v27)] [] h28 Q) (mx_XX mY_X12_runsPlain Q))))) ∧ ((lg_cmp (hpL h b1 x2.toNatClampNeg) (hpL h25 x0 19)) = 0 → mx_SM mY_X12_exits (d - 1) [.ref x0, .int x1] h25 (mx_KI (fun v28 h29 => mx_SX mY_X12_runsPlain d 262 [(0, .ref x0), (1, .int x1), (5, .int v28)] [] h29 Q) (mx_XX mY_X12_runsPlain Q))))))) (mx_XX mY_X12_runsPlain Q))))) ∧ ((lg_cmp (hpL h b1 x2.toNatClampNeg) (hpL h2 x0 16)) = 0 → mx_SM mY_X12_readsInto (d - 1) [.ref x0, .int x1] h2 (mx_KI (fun v29 h30 => ((¬ v29 = (-1 : Int32) → mx_SX mY_X12_runsPlain d 262 [(0, .ref x0), (1, .int x1), (5, .int v29)] [] h30 Q) ∧ (v29 = (-1 : Int32) → hpK h30 x0 = 12 ∧ ((¬ (lg_cmp (hpL h b1 x2.toNatClampNeg) (hpL h30 x0 19)) = 0 → ((¬ (lg_cmp (hpL h b1 x2.toNatClampNeg) (hpL h30 x0 21)) = 0 → ((¬ (lg_cmp (hpL h b1 x2.toNatClampNeg) (hpL h30 x0 24)) = 0 → mx_SM mY_X12_waits (d - 1) [.ref x0, .int x1, .int (0 : Int32)] h30 (mx_KI (fun v30 h31 => mx_SX mY_X12_runsPlain d 262 [(0, .ref x0), (1, .int x1), (5, .int v30)] [] h31 Q) (mx_XX mY_X12_runsPlain Q))) ∧ ((lg_cmp (hpL h b1 x2.toNatClampNeg) (hpL h30 x0 24)) = 0 → mx_SM mY_X12_waits (d - 1) [.ref x0, .int x1, .int (1 : Int32)] h30 (mx_KI (fun v31 h32 => mx_SX mY_X12_runsPlain d 262 [(0, .ref x0), (1, .int x1), (5, .int v31)] [] h32 Q) (mx_XX mY_X12_runsPlain Q))))) ∧ ((lg_cmp (hpL h b1 x2.toNatClampNeg) (hpL h30 x0 21)) = 0 → mx_SM mY_X12_raises (d - 1) [.ref x0, .int x1] h30 (mx_KI (fun v32 h33 => mx_SX mY_X12_runsPlain d 262 [(0, .ref x0), (1, .int x1), (5, .int v32)] [] h33 Q) (mx_XX mY_X12_runsPlain Q))))) ∧ ((lg_cmp (hpL h b1 x2.toNatClampNeg) (hpL h30 x0 19)) = 0 → mx_SM mY_X12_exits (d - 1) [.ref x0, .int x1] h30 (mx_KI (fun v33 h34 => mx_SX mY_X12_runsPlain d 262 [(0, .ref x0), (1, .int x1), (5, .int v33)] [] h34 Q) (mx_XX mY_X12_runsPlain Q))))))) (mx_XX mY_X12_runsPlain Q))))) ∧ ((lg_cmp (hpL h b1 x2.toNatClampNeg) (hpL h2 x0 15)) = 0 → mx_SM mY_X12_echoes (d - 1) [.ref x0, .int x1] h2 (mx_KI (fun v34 h35 => ((¬ v34 = (-1 : Int32) → mx_SX mY_X12_runsPlain d 262 [(0, .ref x0), (1, .int x1), (5, .int v34)] [] h35 Q) ∧ (v34 = (-1 : Int32) → hpK h35 x0 = 12 ∧ ((¬ (lg_cmp (hpL h b1 x2.toNatClampNeg) (hpL h35 x0 19)) = 0 → ((¬ (lg_cmp (hpL h b1 x2.toNatClampNeg) (hpL h35 x0 21)) = 0 → ((¬ (lg_cmp (hpL h b1 x2.toNatClampNeg) (hpL h35 x0 24)) = 0 → mx_SM mY_X12_waits (d - 1) [.ref x0, .int x1, .int (0 : Int32)] h35 (mx_KI (fun v35 h36 => mx_SX mY_X12_runsPlain d 262 [(0, .ref x0), (1, .int x1), (5, .int v35)] [] h36 Q) (mx_XX mY_X12_runsPlain Q))) ∧ ((lg_cmp (hpL h b1 x2.toNatClampNeg) (hpL h35 x0 24)) = 0 → mx_SM mY_X12_waits (d - 1) [.ref x0, .int x1, .int (1 : Int32)] h35 (mx_KI (fun v36 h37 => mx_SX mY_X12_runsPlain d 262 [(0, .ref x0), (1, .int x1), (5, .int v36)] [] h37 Q) (mx_XX mY_X12_runsPlain Q))))) ∧ ((lg_cmp (hpL h b1 x2.toNatClampNeg) (hpL h35 x0 21)) = 0 → mx_SM mY_X12_raises (d - 1) [.ref x0, .int x1] h35 (mx_KI (fun v37 h38 => mx_SX mY_X12_runsPlain d 262 [(0, .ref x0), (1, .int x1), (5, .int v37)] [] h38 Q) (mx_XX mY_X12_runsPlain Q))))) ∧ ((lg_cmp (hpL h b1 x2.toNatClampNeg) (hpL h35 x0 19)) = 0 → mx_SM mY_X12_exits (d - 1) [.ref x0, .int x1] h35 (mx_KI (fun v38 h39 => mx_SX mY_X12_runsPlain d 262 [(0, .ref x0), (1, .int x1), (5, .int v38)] [] h39 Q) (mx_XX mY_X12_runsPlain Q))))))) (mx_XX mY_X12_runsPlain Q))))) ∧ ((lg_cmp (hpL h b1 x2.toNatClampNeg) (hpL h2 x0 14)) = 0 → ((¬ (1 : Int32) = (-1 : Int32) → mx_SX mY_X12_runsPlain d 262 [(0, .ref x0), (1, .int x1), (5, .int (1 : Int32))] [] h2 Q) ∧ ((1 : Int32) = (-1 : Int32) → ((¬ (lg_cmp (hpL h b1 x2.toNatClampNeg) (hpL h2 x0 19)) = 0 → ((¬ (lg_cmp (hpL h b1 x2.toNatClampNeg) (hpL h2 x0 21)) = 0 → ((¬ (lg_cmp (hpL h b1 x2.toNatClampNeg) (hpL h2 x0 24)) = 0 → mx_SM mY_X12_waits (d - 1) [.ref x0, .int x1, .int (0 : Int32)] h2 (mx_KI (fun v39 h40 => mx_SX mY_X12_runsPlain d 262 [(0, .ref x0), (1, .int x1), (5, .int v39)] [] h40 Q) (mx_XX mY_X12_runsPlain Q))) ∧ ((lg_cmp (hpL h b1 x2.toNatClampNeg) (hpL h2 x0 24)) = 0 → mx_SM mY_X12_waits (d - 1) [.ref x0, .int x1, .int (1 : Int32)] h2 (mx_KI (fun v40 h41 => mx_SX mY_X12_runsPlain d 262 [(0, .ref x0), (1, .int x1), (5, .int v40)] [] h41 Q) (mx_XX mY_X12_runsPlain Q))))) ∧ ((lg_cmp (hpL h b1 x2.toNatClampNeg) (hpL h2 x0 21)) = 0 → mx_SM mY_X12_raises (d - 1) [.ref x0, .int x1] h2 (mx_KI (fun v41 h42 => mx_SX mY_X12_runsPlain d 262 [(0, .ref x0), (1, .int x1), (5, .int v41)] [] h42 Q) (mx_XX mY_X12_runsPlain Q))))) ∧ ((lg_cmp (hpL h b1 x2.toNatClampNeg) (hpL h2 x0 19)) = 0 → mx_SM mY_X12_exits (d - 1) [.ref x0, .int x1] h2 (mx_KI (fun v42 h43 => mx_SX mY_X12_runsPlain d 262 [(0, .ref x0), (1, .int x1), (5, .int v42)] [] h43 Q) (mx_XX mY_X12_runsPlain Q))))))))) ∧ ((lg_cmp (hpL h b1 x2.toNatClampNeg) (hpL h2 x0 13)) = 0 → ((¬ (0 : Int32) = (-1 : Int32) → mx_SX mY_X12_runsPlain d 262 [(0, .ref x0), (1, .int x1), (5, .int (0 : Int32))] [] h2 Q) ∧ ((0 : Int32) = (-1 : Int32) → ((¬ (lg_cmp (hpL h b1 x2.toNatClampNeg) (hpL h2 x0 19)) = 0 → ((¬ (lg_cmp (hpL h b1 x2.toNatClampNeg) (hpL h2 x0 21)) = 0 → ((¬ (lg_cmp (hpL h b1 x2.toNatClampNeg) (hpL h2 x0 24)) = 0 → mx_SM mY_X12_waits (d - 1) [.ref x0, .int x1, .int (0 : Int32)] h2 (mx_KI (fun v43 h44 => mx_SX mY_X12_runsPlain d 262 [(0, .ref x0), (1, .int x1), (5, .int v43)] [] h44 Q) (mx_XX mY_X12_runsPlain Q))) ∧ ((lg_cmp (hpL h b1 x2.toNatClampNeg) (hpL h2 x0 24)) = 0 → mx_SM mY_X12_waits (d - 1) [.ref x0, .int x1, .int (1 : Int32)] h2 (mx_KI (fun v44 h45 => mx_SX mY_X12_runsPlain d 262 [(0, .ref x0), (1, .int x1), (5, .int v44)] [] h45 Q) (mx_XX mY_X12_runsPlain Q))))) ∧ ((lg_cmp (hpL h b1 x2.toNatClampNeg) (hpL h2 x0 21)) = 0 → mx_SM mY_X12_raises (d - 1) [.ref x0, .int x1] h2 (mx_KI (fun v45 h46 => mx_SX mY_X12_runsPlain d 262 [(0, .ref x0), (1, .int x1), (5, .int v45)] [] h46 Q) (mx_XX mY_X12_runsPlain Q))))) ∧ ((lg_cmp (hpL h b1 x2.toNatClampNeg) (hpL h2 x0 19)) = 0 → mx_SM mY_X12_exits (d - 1) [.ref x0, .int x1] h2 (mx_KI (fun v46 h47 => mx_SX mY_X12_runsPlain d 262 [(0, .ref x0), (1, .int x1), (5, .int v46)] [] h47 Q) (mx_XX mY_X12_runsPlain Q))))))))) (mx_XX mY_X12_runsPlain Q))) ∧ (v1 = 0 → hpK h1 x0 = 12 ∧ mx_SM mY_X12_functionOf (d - 1) [.ref x0, .int x1, .long (hpL h b1 x2.toNatClampNeg)] h1 (mx_KI (fun v47 h48 => ((¬ v47 = (-1 : Int32) → hpK h48 x0 = 12 ∧ mx_SM mY_X12_of (d - 1) [.ref x0, .int x1, .int ((22 : Int32) + v47)] h48 (mx_KI (fun v48 h49 => hpK h49 x0 = 12 ∧ mx_SM mY_X12_calls (d - 1) [.ref x0, .int x1, .int v48] h49 (mx_KV (fun h50 => Q (.inl none) h50) (mx_XX mY_X12_runsPlain Q))) (mx_XX mY_X12_runsPlain Q))) ∧ (v47 = (-1 : Int32) → hpK h48 x0 = 12 ∧ mx_SM mY_X12_sets (d - 1) [.ref x0, .int x1, .int (33 : Int32), .int (127 : Int32)] h48 (mx_KV (fun h51 => Q (.inl none) h51) (mx_XX mY_X12_runsPlain Q))))) (mx_XX mY_X12_runsPlain Q))))) (mx_XX mY_X12_runsPlain Q))) : mx_SM mY_X12_runsPlain d [.ref x0, .int x1, .int x2] h Q := by
  refine mx_SM_of (by decide) (Nat.le_of_ble_eq_true rfl) ?_
  show mx_SX mY_X12_runsPlain d 0 [(0, .ref x0), (1, .int x1), (2, .int x2)] [] h Q
  refine mx_aload_n (pc := 0) 0 (mx_dd dd_X12_runsPlain_0 0 (0, .aload_n 0, 1) rfl) rfl rfl ?_
  obtain ⟨g1, P⟩ := P
  obtain ⟨b1, g2, P⟩ := P
  refine mx_getR (pc := 1) mx_fl_X12_299 g1 rfl g2 (mx_dd dd_X12_runsPlain_0 1 (1, .getfield 299, 3) rfl) ?_
  refine mx_iload_n (pc := 4) 2 (mx_dd dd_X12_runsPlain_0 2 (4, .iload_n 2, 1) rfl) rfl rfl ?_
  obtain ⟨g3, P⟩ := P
  obtain ⟨g4, P⟩ := P
  refine mx_lald (pc := 5) g3 g4 (mx_dd dd_X12_runsPlain_0 3 (5, .laload, 1) rfl) ?_
  refine mx_lstore_n (pc := 6) (mx_dd dd_X12_runsPlain_0 4 (6, .lstore_n 3, 1) rfl) rfl (by decide) (lv' := [(3, _), (0, _), (1, _), (2, _)]) rfl ?_
  refine mx_aload_n (pc := 7) 1 (mx_dd dd_X12_runsPlain_0 5 (7, .aload_n 0, 1) rfl) rfl rfl ?_
  refine mx_lload_n (pc := 8) 0 (mx_dd dd_X12_runsPlain_0 6 (8, .lload_n 3, 1) rfl) rfl rfl ?_
  obtain ⟨g5, P⟩ := P
  refine mx_cVI (pc := 9) (Y := mY_X12_isCommand) (As := [.long _]) mx_ml_X12_586 mx_y_X12_isCommand rfl g1 (by decide) rfl (by decide) rfl (mx_dd dd_X12_runsPlain_0 7 (9, .invokevirtual 586, 3) rfl) g5 (by decide) P (fun v1 h1 P => ?_)
  refine mx_if_ne (pc := 12) 57 (mx_dd dd_X12_runsPlain_0 8 (12, .ifCond .ne 45, 3) rfl) rfl (fun c12 => ?_) (fun c12 => ?_)
  · have P := P.1 c12
    refine mx_aload_n (pc := 57) 1 (mx_dd dd_X12_runsPlain_0 33 (57, .aload_n 0, 1) rfl) rfl rfl ?_
    refine mx_iload_n (pc := 58) 2 (mx_dd dd_X12_runsPlain_0 34 (58, .iload_n 1, 1) rfl) rfl rfl ?_
    refine mx_iload_n (pc := 59) 3 (mx_dd dd_X12_runsPlain_0 35 (59, .iload_n 2, 1) rfl) rfl rfl ?_
    obtain ⟨g6, P⟩ := P
    refine mx_cVV (pc := 60) (Y := mY_X12_evaluatesAll) (As := [.int _, .int _]) mx_ml_X12_575 mx_y_X12_evaluatesAll rfl g6 (by decide) rfl (by decide) rfl (mx_dd dd_X12_runsPlain_0 36 (60, .invokevirtual 575, 3) rfl) g5 (by decide) P (fun h2 P => ?_)
    refine mx_lload_n (pc := 63) 0 (mx_dd dd_X12_runsPlain_0 37 (63, .lload_n 3, 1) rfl) rfl rfl ?_
    refine mx_aload_n (pc := 64) 1 (mx_dd dd_X12_runsPlain_0 38 (64, .aload_n 0, 1) rfl) rfl rfl ?_
    obtain ⟨g7, P⟩ := P
    refine mx_getL (pc := 65) mx_fl_X12_97 g7 rfl (mx_dd dd_X12_runsPlain_0 39 (65, .getfield 97, 3) rfl) ?_
    refine mx_lcmp (pc := 68) (mx_dd dd_X12_runsPlain_1 0 (68, .lcmp, 1) rfl) ?_
    refine mx_if_ne (pc := 69) 76 (mx_dd dd_X12_runsPlain_1 1 (69, .ifCond .ne 7, 3) rfl) rfl (fun c69 => ?_) (fun c69 => ?_)
    · have P := P.1 c69
      refine mx_lload_n (pc := 76) 0 (mx_dd dd_X12_runsPlain_1 4 (76, .lload_n 3, 1) rfl) rfl rfl ?_
      refine mx_aload_n (pc := 77) 1 (mx_dd dd_X12_runsPlain_1 5 (77, .aload_n 0, 1) rfl) rfl rfl ?_
      refine mx_getL (pc := 78) mx_fl_X12_101 g7 rfl (mx_dd dd_X12_runsPlain_1 6 (78, .getfield 101, 3) rfl) ?_
      refine mx_lcmp (pc := 81) (mx_dd dd_X12_runsPlain_1 7 (81, .lcmp, 1) rfl) ?_
      refine mx_if_ne (pc := 82) 89 (mx_dd dd_X12_runsPlain_1 8 (82, .ifCond .ne 7, 3) rfl) rfl (fun c82 => ?_) (fun c82 => ?_)
      · have P := P.1 c82
        refine mx_lload_n (pc := 89) 0 (mx_dd dd_X12_runsPlain_1 11 (89, .lload_n 3, 1) rfl) rfl rfl ?_
        refine mx_aload_n (pc := 90) 1 (mx_dd dd_X12_runsPlain_1 12 (90, .aload_n 0, 1) rfl) rfl rfl ?_
        refine mx_getL (pc := 91) mx_fl_X12_104 g7 rfl (mx_dd dd_X12_runsPlain_1 13 (91, .getfield 104, 3) rfl) ?_
        refine mx_lcmp (pc := 94) (mx_dd dd_X12_runsPlain_1 14 (94, .lcmp, 1) rfl) ?_
        refine mx_if_ne (pc := 95) 106 (mx_dd dd_X12_runsPlain_1 15 (95, .ifCond .ne 11, 3) rfl) rfl (fun c95 => ?_) (fun c95 => ?_)
        · have P := P.1 c95
          refine mx_lload_n (pc := 106) 0 (mx_dd dd_X12_runsPlain_1 20 (106, .lload_n 3, 1) rfl) rfl rfl ?_
          refine mx_aload_n (pc := 107) 1 (mx_dd dd_X12_runsPlain_1 21 (107, .aload_n 0, 1) rfl) rfl rfl ?_
          refine mx_getL (pc := 108) mx_fl_X12_107 g7 rfl (mx_dd dd_X12_runsPlain_1 22 (108, .getfield 107, 3) rfl) ?_
          refine mx_lcmp (pc := 111) (mx_dd dd_X12_runsPlain_1 23 (111, .lcmp, 1) rfl) ?_
          refine mx_if_ne (pc := 112) 123 (mx_dd dd_X12_runsPlain_1 24 (112, .ifCond .ne 11, 3) rfl) rfl (fun c112 => ?_) (fun c112 => ?_)
          · have P := P.1 c112
            refine mx_lload_n (pc := 123) 0 (mx_dd dd_X12_runsPlain_1 29 (123, .lload_n 3, 1) rfl) rfl rfl ?_
            refine mx_aload_n (pc := 124) 1 (mx_dd dd_X12_runsPlain_1 30 (124, .aload_n 0, 1) rfl) rfl rfl ?_
            refine mx_getL (pc := 125) mx_fl_X12_110 g7 rfl (mx_dd dd_X12_runsPlain_1 31 (125, .getfield 110, 3) rfl) ?_
            refine mx_lcmp (pc := 128) (mx_dd dd_X12_runsPlain_1 32 (128, .lcmp, 1) rfl) ?_
            refine mx_if_ne (pc := 129) 140 (mx_dd dd_X12_runsPlain_1 33 (129, .ifCond .ne 11, 3) rfl) rfl (fun c129 => ?_) (fun c129 => ?_)
            · have P := P.1 c129
              refine mx_lload_n (pc := 140) 0 (mx_dd dd_X12_runsPlain_1 38 (140, .lload_n 3, 1) rfl) rfl rfl ?_
              refine mx_aload_n (pc := 141) 1 (mx_dd dd_X12_runsPlain_1 39 (141, .aload_n 0, 1) rfl) rfl rfl ?_
              refine mx_getL (pc := 142) mx_fl_X12_113 g7 rfl (mx_dd dd_X12_runsPlain_2 0 (142, .getfield 113, 3) rfl) ?_
              refine mx_lcmp (pc := 145) (mx_dd dd_X12_runsPlain_2 1 (145, .lcmp, 1) rfl) ?_
              refine mx_if_ne (pc := 146) 164 (mx_dd dd_X12_runsPlain_2 2 (146, .ifCond .ne 18, 3) rfl) rfl (fun c146 => ?_) (fun c146 => ?_)
              · have P := P.1 c146
                refine mx_lload_n (pc := 164) 0 (mx_dd dd_X12_runsPlain_2 10 (164, .lload_n 3, 1) rfl) rfl rfl ?_
                refine mx_aload_n (pc := 165) 1 (mx_dd dd_X12_runsPlain_2 11 (165, .aload_n 0, 1) rfl) rfl rfl ?_
                refine mx_getL (pc := 166) mx_fl_X12_119 g7 rfl (mx_dd dd_X12_runsPlain_2 12 (166, .getfield 119, 3) rfl) ?_
                refine mx_lcmp (pc := 169) (mx_dd dd_X12_runsPlain_2 13 (169, .lcmp, 1) rfl) ?_
                refine mx_if_ne (pc := 170) 181 (mx_dd dd_X12_runsPlain_2 14 (170, .ifCond .ne 11, 3) rfl) rfl (fun c170 => ?_) (fun c170 => ?_)
                · have P := P.1 c170
                  refine mx_lload_n (pc := 181) 0 (mx_dd dd_X12_runsPlain_2 19 (181, .lload_n 3, 1) rfl) rfl rfl ?_
                  refine mx_aload_n (pc := 182) 1 (mx_dd dd_X12_runsPlain_2 20 (182, .aload_n 0, 1) rfl) rfl rfl ?_
                  refine mx_getL (pc := 183) mx_fl_X12_125 g7 rfl (mx_dd dd_X12_runsPlain_2 21 (183, .getfield 125, 3) rfl) ?_
                  refine mx_lcmp (pc := 186) (mx_dd dd_X12_runsPlain_2 22 (186, .lcmp, 1) rfl) ?_
                  refine mx_if_ne (pc := 187) 198 (mx_dd dd_X12_runsPlain_2 23 (187, .ifCond .ne 11, 3) rfl) rfl (fun c187 => ?_) (fun c187 => ?_)
                  · have P := P.1 c187
                    refine mx_iconst (pc := 198) (v := (-1 : Int32)) (mx_dd dd_X12_runsPlain_2 28 (198, .iconst (-1), 1) rfl) (by decide) ?_
                    refine mx_istore (pc := 199) (mx_dd dd_X12_runsPlain_2 29 (199, .istore 5, 2) rfl) (by decide) (lv' := [(5, _), (3, _), (0, _), (1, _), (2, _)]) rfl ?_
                    refine mx_iload (pc := 201) 0 (mx_dd dd_X12_runsPlain_2 30 (201, .iload 5, 2) rfl) rfl ?_
                    refine mx_iconst (pc := 203) (v := (-1 : Int32)) (mx_dd dd_X12_runsPlain_2 31 (203, .iconst (-1), 1) rfl) (by decide) ?_
                    refine mx_icmp_ne (pc := 204) 262 (mx_dd dd_X12_runsPlain_2 32 (204, .if_icmp .ne 58, 3) rfl) rfl (fun c204 => ?_) (fun c204 => ?_)
                    · have P := P.1 c204
                      refine mx_sel [2, 3, 0] rfl ?_
                      exact P
                    · have P := P.2 c204
                      refine mx_lload_n (pc := 207) 1 (mx_dd dd_X12_runsPlain_2 33 (207, .lload_n 3, 1) rfl) rfl rfl ?_
                      refine mx_aload_n (pc := 208) 2 (mx_dd dd_X12_runsPlain_2 34 (208, .aload_n 0, 1) rfl) rfl rfl ?_
                      refine mx_getL (pc := 209) mx_fl_X12_116 g7 rfl (mx_dd dd_X12_runsPlain_2 35 (209, .getfield 116, 3) rfl) ?_
                      refine mx_lcmp (pc := 212) (mx_dd dd_X12_runsPlain_2 36 (212, .lcmp, 1) rfl) ?_
                      refine mx_if_ne (pc := 213) 224 (mx_dd dd_X12_runsPlain_2 37 (213, .ifCond .ne 11, 3) rfl) rfl (fun c213 => ?_) (fun c213 => ?_)
                      · have P := P.1 c213
                        refine mx_lload_n (pc := 224) 1 (mx_dd dd_X12_runsPlain_3 2 (224, .lload_n 3, 1) rfl) rfl rfl ?_
                        refine mx_aload_n (pc := 225) 2 (mx_dd dd_X12_runsPlain_3 3 (225, .aload_n 0, 1) rfl) rfl rfl ?_
                        refine mx_getL (pc := 226) mx_fl_X12_122 g7 rfl (mx_dd dd_X12_runsPlain_3 4 (226, .getfield 122, 3) rfl) ?_
                        refine mx_lcmp (pc := 229) (mx_dd dd_X12_runsPlain_3 5 (229, .lcmp, 1) rfl) ?_
                        refine mx_if_ne (pc := 230) 241 (mx_dd dd_X12_runsPlain_3 6 (230, .ifCond .ne 11, 3) rfl) rfl (fun c230 => ?_) (fun c230 => ?_)
                        · have P := P.1 c230
                          refine mx_aload_n (pc := 241) 2 (mx_dd dd_X12_runsPlain_3 11 (241, .aload_n 0, 1) rfl) rfl rfl ?_
                          refine mx_iload_n (pc := 242) 3 (mx_dd dd_X12_runsPlain_3 12 (242, .iload_n 1, 1) rfl) rfl rfl ?_
                          refine mx_lload_n (pc := 243) 1 (mx_dd dd_X12_runsPlain_3 13 (243, .lload_n 3, 1) rfl) rfl rfl ?_
                          refine mx_aload_n (pc := 244) 2 (mx_dd dd_X12_runsPlain_3 14 (244, .aload_n 0, 1) rfl) rfl rfl ?_
                          refine mx_getL (pc := 245) mx_fl_X12_131 g7 rfl (mx_dd dd_X12_runsPlain_3 15 (245, .getfield 131, 3) rfl) ?_
                          refine mx_lcmp (pc := 248) (mx_dd dd_X12_runsPlain_3 16 (248, .lcmp, 1) rfl) ?_
                          refine mx_if_ne (pc := 249) 256 (mx_dd dd_X12_runsPlain_3 17 (249, .ifCond .ne 7, 3) rfl) rfl (fun c249 => ?_) (fun c249 => ?_)
                          · have P := P.1 c249
                            refine mx_iconst (pc := 256) (v := (0 : Int32)) (mx_dd dd_X12_runsPlain_3 20 (256, .iconst 0, 1) rfl) (by decide) ?_
                            refine mx_cVI (pc := 257) (Y := mY_X12_waits) (As := [.int _, .int _]) mx_ml_X12_611 mx_y_X12_waits rfl g7 (by decide) rfl (by decide) rfl (mx_dd dd_X12_runsPlain_3 21 (257, .invokevirtual 611, 3) rfl) g5 (by decide) P (fun v2 h3 P => ?_)
                            refine mx_istore (pc := 260) (mx_dd dd_X12_runsPlain_3 22 (260, .istore 5, 2) rfl) (by decide) (lv' := [(5, _), (3, _), (0, _), (1, _), (2, _)]) rfl ?_
                            refine mx_sel [2, 3, 0] rfl ?_
                            exact P
                          · have P := P.2 c249
                            refine mx_iconst (pc := 252) (v := (1 : Int32)) (mx_dd dd_X12_runsPlain_3 18 (252, .iconst 1, 1) rfl) (by decide) ?_
                            refine mx_goto (pc := 253) 257 (mx_dd dd_X12_runsPlain_3 19 (253, .goto 4, 3) rfl) rfl ?_
                            refine mx_cVI (pc := 257) (Y := mY_X12_waits) (As := [.int _, .int _]) mx_ml_X12_611 mx_y_X12_waits rfl g7 (by decide) rfl (by decide) rfl (mx_dd dd_X12_runsPlain_3 21 (257, .invokevirtual 611, 3) rfl) g5 (by decide) P (fun v3 h4 P => ?_)
                            refine mx_istore (pc := 260) (mx_dd dd_X12_runsPlain_3 22 (260, .istore 5, 2) rfl) (by decide) (lv' := [(5, _), (3, _), (0, _), (1, _), (2, _)]) rfl ?_
                            refine mx_sel [2, 3, 0] rfl ?_
                            exact P
                        · have P := P.2 c230
                          refine mx_aload_n (pc := 233) 2 (mx_dd dd_X12_runsPlain_3 7 (233, .aload_n 0, 1) rfl) rfl rfl ?_
                          refine mx_iload_n (pc := 234) 3 (mx_dd dd_X12_runsPlain_3 8 (234, .iload_n 1, 1) rfl) rfl rfl ?_
                          refine mx_cVI (pc := 235) (Y := mY_X12_raises) (As := [.int _]) mx_ml_X12_608 mx_y_X12_raises rfl g7 (by decide) rfl (by decide) rfl (mx_dd dd_X12_runsPlain_3 9 (235, .invokevirtual 608, 3) rfl) g5 (by decide) P (fun v4 h5 P => ?_)
                          refine mx_goto (pc := 238) 260 (mx_dd dd_X12_runsPlain_3 10 (238, .goto 22, 3) rfl) rfl ?_
                          refine mx_istore (pc := 260) (mx_dd dd_X12_runsPlain_3 22 (260, .istore 5, 2) rfl) (by decide) (lv' := [(5, _), (3, _), (0, _), (1, _), (2, _)]) rfl ?_
                          refine mx_sel [2, 3, 0] rfl ?_
                          exact P
                      · have P := P.2 c213
                        refine mx_aload_n (pc := 216) 2 (mx_dd dd_X12_runsPlain_2 38 (216, .aload_n 0, 1) rfl) rfl rfl ?_
                        refine mx_iload_n (pc := 217) 3 (mx_dd dd_X12_runsPlain_2 39 (217, .iload_n 1, 1) rfl) rfl rfl ?_
                        refine mx_cVI (pc := 218) (Y := mY_X12_exits) (As := [.int _]) mx_ml_X12_605 mx_y_X12_exits rfl g7 (by decide) rfl (by decide) rfl (mx_dd dd_X12_runsPlain_3 0 (218, .invokevirtual 605, 3) rfl) g5 (by decide) P (fun v5 h6 P => ?_)
                        refine mx_goto (pc := 221) 260 (mx_dd dd_X12_runsPlain_3 1 (221, .goto 39, 3) rfl) rfl ?_
                        refine mx_istore (pc := 260) (mx_dd dd_X12_runsPlain_3 22 (260, .istore 5, 2) rfl) (by decide) (lv' := [(5, _), (3, _), (0, _), (1, _), (2, _)]) rfl ?_
                        refine mx_sel [2, 3, 0] rfl ?_
                        exact P
                  · have P := P.2 c187
                    refine mx_aload_n (pc := 190) 1 (mx_dd dd_X12_runsPlain_2 24 (190, .aload_n 0, 1) rfl) rfl rfl ?_
                    refine mx_iload_n (pc := 191) 2 (mx_dd dd_X12_runsPlain_2 25 (191, .iload_n 1, 1) rfl) rfl rfl ?_
                    refine mx_cVI (pc := 192) (Y := mY_X12_setsOption) (As := [.int _]) mx_ml_X12_602 mx_y_X12_setsOption rfl g7 (by decide) rfl (by decide) rfl (mx_dd dd_X12_runsPlain_2 26 (192, .invokevirtual 602, 3) rfl) g5 (by decide) P (fun v6 h7 P => ?_)
                    refine mx_goto (pc := 195) 199 (mx_dd dd_X12_runsPlain_2 27 (195, .goto 4, 3) rfl) rfl ?_
                    refine mx_istore (pc := 199) (mx_dd dd_X12_runsPlain_2 29 (199, .istore 5, 2) rfl) (by decide) (lv' := [(5, _), (3, _), (0, _), (1, _), (2, _)]) rfl ?_
                    refine mx_iload (pc := 201) 0 (mx_dd dd_X12_runsPlain_2 30 (201, .iload 5, 2) rfl) rfl ?_
                    refine mx_iconst (pc := 203) (v := (-1 : Int32)) (mx_dd dd_X12_runsPlain_2 31 (203, .iconst (-1), 1) rfl) (by decide) ?_
                    refine mx_icmp_ne (pc := 204) 262 (mx_dd dd_X12_runsPlain_2 32 (204, .if_icmp .ne 58, 3) rfl) rfl (fun c204 => ?_) (fun c204 => ?_)
                    · have P := P.1 c204
                      refine mx_sel [2, 3, 0] rfl ?_
                      exact P
                    · have P := P.2 c204
                      refine mx_lload_n (pc := 207) 1 (mx_dd dd_X12_runsPlain_2 33 (207, .lload_n 3, 1) rfl) rfl rfl ?_
                      refine mx_aload_n (pc := 208) 2 (mx_dd dd_X12_runsPlain_2 34 (208, .aload_n 0, 1) rfl) rfl rfl ?_
                      obtain ⟨g8, P⟩ := P
                      refine mx_getL (pc := 209) mx_fl_X12_116 g8 rfl (mx_dd dd_X12_runsPlain_2 35 (209, .getfield 116, 3) rfl) ?_
                      refine mx_lcmp (pc := 212) (mx_dd dd_X12_runsPlain_2 36 (212, .lcmp, 1) rfl) ?_
                      refine mx_if_ne (pc := 213) 224 (mx_dd dd_X12_runsPlain_2 37 (213, .ifCond .ne 11, 3) rfl) rfl (fun c213 => ?_) (fun c213 => ?_)
                      · have P := P.1 c213
                        refine mx_lload_n (pc := 224) 1 (mx_dd dd_X12_runsPlain_3 2 (224, .lload_n 3, 1) rfl) rfl rfl ?_
                        refine mx_aload_n (pc := 225) 2 (mx_dd dd_X12_runsPlain_3 3 (225, .aload_n 0, 1) rfl) rfl rfl ?_
                        refine mx_getL (pc := 226) mx_fl_X12_122 g8 rfl (mx_dd dd_X12_runsPlain_3 4 (226, .getfield 122, 3) rfl) ?_
                        refine mx_lcmp (pc := 229) (mx_dd dd_X12_runsPlain_3 5 (229, .lcmp, 1) rfl) ?_
                        refine mx_if_ne (pc := 230) 241 (mx_dd dd_X12_runsPlain_3 6 (230, .ifCond .ne 11, 3) rfl) rfl (fun c230 => ?_) (fun c230 => ?_)
                        · have P := P.1 c230
                          refine mx_aload_n (pc := 241) 2 (mx_dd dd_X12_runsPlain_3 11 (241, .aload_n 0, 1) rfl) rfl rfl ?_
                          refine mx_iload_n (pc := 242) 3 (mx_dd dd_X12_runsPlain_3 12 (242, .iload_n 1, 1) rfl) rfl rfl ?_
                          refine mx_lload_n (pc := 243) 1 (mx_dd dd_X12_runsPlain_3 13 (243, .lload_n 3, 1) rfl) rfl rfl ?_
                          refine mx_aload_n (pc := 244) 2 (mx_dd dd_X12_runsPlain_3 14 (244, .aload_n 0, 1) rfl) rfl rfl ?_
                          refine mx_getL (pc := 245) mx_fl_X12_131 g8 rfl (mx_dd dd_X12_runsPlain_3 15 (245, .getfield 131, 3) rfl) ?_
                          refine mx_lcmp (pc := 248) (mx_dd dd_X12_runsPlain_3 16 (248, .lcmp, 1) rfl) ?_
                          refine mx_if_ne (pc := 249) 256 (mx_dd dd_X12_runsPlain_3 17 (249, .ifCond .ne 7, 3) rfl) rfl (fun c249 => ?_) (fun c249 => ?_)
                          · have P := P.1 c249
                            refine mx_iconst (pc := 256) (v := (0 : Int32)) (mx_dd dd_X12_runsPlain_3 20 (256, .iconst 0, 1) rfl) (by decide) ?_
                            refine mx_cVI (pc := 257) (Y := mY_X12_waits) (As := [.int _, .int _]) mx_ml_X12_611 mx_y_X12_waits rfl g8 (by decide) rfl (by decide) rfl (mx_dd dd_X12_runsPlain_3 21 (257, .invokevirtual 611, 3) rfl) g5 (by decide) P (fun v7 h8 P => ?_)
                            refine mx_istore (pc := 260) (mx_dd dd_X12_runsPlain_3 22 (260, .istore 5, 2) rfl) (by decide) (lv' := [(5, _), (3, _), (0, _), (1, _), (2, _)]) rfl ?_
                            refine mx_sel [2, 3, 0] rfl ?_
                            exact P
                          · have P := P.2 c249
                            refine mx_iconst (pc := 252) (v := (1 : Int32)) (mx_dd dd_X12_runsPlain_3 18 (252, .iconst 1, 1) rfl) (by decide) ?_
                            refine mx_goto (pc := 253) 257 (mx_dd dd_X12_runsPlain_3 19 (253, .goto 4, 3) rfl) rfl ?_
                            refine mx_cVI (pc := 257) (Y := mY_X12_waits) (As := [.int _, .int _]) mx_ml_X12_611 mx_y_X12_waits rfl g8 (by decide) rfl (by decide) rfl (mx_dd dd_X12_runsPlain_3 21 (257, .invokevirtual 611, 3) rfl) g5 (by decide) P (fun v8 h9 P => ?_)
                            refine mx_istore (pc := 260) (mx_dd dd_X12_runsPlain_3 22 (260, .istore 5, 2) rfl) (by decide) (lv' := [(5, _), (3, _), (0, _), (1, _), (2, _)]) rfl ?_
                            refine mx_sel [2, 3, 0] rfl ?_
                            exact P
                        · have P := P.2 c230
                          refine mx_aload_n (pc := 233) 2 (mx_dd dd_X12_runsPlain_3 7 (233, .aload_n 0, 1) rfl) rfl rfl ?_
                          refine mx_iload_n (pc := 234) 3 (mx_dd dd_X12_runsPlain_3 8 (234, .iload_n 1, 1) rfl) rfl rfl ?_
                          refine mx_cVI (pc := 235) (Y := mY_X12_raises) (As := [.int _]) mx_ml_X12_608 mx_y_X12_raises rfl g8 (by decide) rfl (by decide) rfl (mx_dd dd_X12_runsPlain_3 9 (235, .invokevirtual 608, 3) rfl) g5 (by decide) P (fun v9 h10 P => ?_)
                          refine mx_goto (pc := 238) 260 (mx_dd dd_X12_runsPlain_3 10 (238, .goto 22, 3) rfl) rfl ?_
                          refine mx_istore (pc := 260) (mx_dd dd_X12_runsPlain_3 22 (260, .istore 5, 2) rfl) (by decide) (lv' := [(5, _), (3, _), (0, _), (1, _), (2, _)]) rfl ?_
                          refine mx_sel [2, 3, 0] rfl ?_
                          exact P
                      · have P := P.2 c213
                        refine mx_aload_n (pc := 216) 2 (mx_dd dd_X12_runsPlain_2 38 (216, .aload_n 0, 1) rfl) rfl rfl ?_
                        refine mx_iload_n (pc := 217) 3 (mx_dd dd_X12_runsPlain_2 39 (217, .iload_n 1, 1) rfl) rfl rfl ?_
                        refine mx_cVI (pc := 218) (Y := mY_X12_exits) (As := [.int _]) mx_ml_X12_605 mx_y_X12_exits rfl g8 (by decide) rfl (by decide) rfl (mx_dd dd_X12_runsPlain_3 0 (218, .invokevirtual 605, 3) rfl) g5 (by decide) P (fun v10 h11 P => ?_)
                        refine mx_goto (pc := 221) 260 (mx_dd dd_X12_runsPlain_3 1 (221, .goto 39, 3) rfl) rfl ?_
                        refine mx_istore (pc := 260) (mx_dd dd_X12_runsPlain_3 22 (260, .istore 5, 2) rfl) (by decide) (lv' := [(5, _), (3, _), (0, _), (1, _), (2, _)]) rfl ?_
                        refine mx_sel [2, 3, 0] rfl ?_
                        exact P
                · have P := P.2 c170
                  refine mx_aload_n (pc := 173) 1 (mx_dd dd_X12_runsPlain_2 15 (173, .aload_n 0, 1) rfl) rfl rfl ?_
                  refine mx_iload_n (pc := 174) 2 (mx_dd dd_X12_runsPlain_2 16 (174, .iload_n 1, 1) rfl) rfl rfl ?_
                  refine mx_cVI (pc := 175) (Y := mY_X12_traps) (As := [.int _]) mx_ml_X12_599 mx_y_X12_traps rfl g7 (by decide) rfl (by decide) rfl (mx_dd dd_X12_runsPlain_2 17 (175, .invokevirtual 599, 3) rfl) g5 (by decide) P (fun v11 h12 P => ?_)
                  refine mx_goto (pc := 178) 199 (mx_dd dd_X12_runsPlain_2 18 (178, .goto 21, 3) rfl) rfl ?_
                  refine mx_istore (pc := 199) (mx_dd dd_X12_runsPlain_2 29 (199, .istore 5, 2) rfl) (by decide) (lv' := [(5, _), (3, _), (0, _), (1, _), (2, _)]) rfl ?_
                  refine mx_iload (pc := 201) 0 (mx_dd dd_X12_runsPlain_2 30 (201, .iload 5, 2) rfl) rfl ?_
                  refine mx_iconst (pc := 203) (v := (-1 : Int32)) (mx_dd dd_X12_runsPlain_2 31 (203, .iconst (-1), 1) rfl) (by decide) ?_
                  refine mx_icmp_ne (pc := 204) 262 (mx_dd dd_X12_runsPlain_2 32 (204, .if_icmp .ne 58, 3) rfl) rfl (fun c204 => ?_) (fun c204 => ?_)
                  · have P := P.1 c204
                    refine mx_sel [2, 3, 0] rfl ?_
                    exact P
                  · have P := P.2 c204
                    refine mx_lload_n (pc := 207) 1 (mx_dd dd_X12_runsPlain_2 33 (207, .lload_n 3, 1) rfl) rfl rfl ?_
                    refine mx_aload_n (pc := 208) 2 (mx_dd dd_X12_runsPlain_2 34 (208, .aload_n 0, 1) rfl) rfl rfl ?_
                    obtain ⟨g9, P⟩ := P
                    refine mx_getL (pc := 209) mx_fl_X12_116 g9 rfl (mx_dd dd_X12_runsPlain_2 35 (209, .getfield 116, 3) rfl) ?_
                    refine mx_lcmp (pc := 212) (mx_dd dd_X12_runsPlain_2 36 (212, .lcmp, 1) rfl) ?_
                    refine mx_if_ne (pc := 213) 224 (mx_dd dd_X12_runsPlain_2 37 (213, .ifCond .ne 11, 3) rfl) rfl (fun c213 => ?_) (fun c213 => ?_)
                    · have P := P.1 c213
                      refine mx_lload_n (pc := 224) 1 (mx_dd dd_X12_runsPlain_3 2 (224, .lload_n 3, 1) rfl) rfl rfl ?_
                      refine mx_aload_n (pc := 225) 2 (mx_dd dd_X12_runsPlain_3 3 (225, .aload_n 0, 1) rfl) rfl rfl ?_
                      refine mx_getL (pc := 226) mx_fl_X12_122 g9 rfl (mx_dd dd_X12_runsPlain_3 4 (226, .getfield 122, 3) rfl) ?_
                      refine mx_lcmp (pc := 229) (mx_dd dd_X12_runsPlain_3 5 (229, .lcmp, 1) rfl) ?_
                      refine mx_if_ne (pc := 230) 241 (mx_dd dd_X12_runsPlain_3 6 (230, .ifCond .ne 11, 3) rfl) rfl (fun c230 => ?_) (fun c230 => ?_)
                      · have P := P.1 c230
                        refine mx_aload_n (pc := 241) 2 (mx_dd dd_X12_runsPlain_3 11 (241, .aload_n 0, 1) rfl) rfl rfl ?_
                        refine mx_iload_n (pc := 242) 3 (mx_dd dd_X12_runsPlain_3 12 (242, .iload_n 1, 1) rfl) rfl rfl ?_
                        refine mx_lload_n (pc := 243) 1 (mx_dd dd_X12_runsPlain_3 13 (243, .lload_n 3, 1) rfl) rfl rfl ?_
                        refine mx_aload_n (pc := 244) 2 (mx_dd dd_X12_runsPlain_3 14 (244, .aload_n 0, 1) rfl) rfl rfl ?_
                        refine mx_getL (pc := 245) mx_fl_X12_131 g9 rfl (mx_dd dd_X12_runsPlain_3 15 (245, .getfield 131, 3) rfl) ?_
                        refine mx_lcmp (pc := 248) (mx_dd dd_X12_runsPlain_3 16 (248, .lcmp, 1) rfl) ?_
                        refine mx_if_ne (pc := 249) 256 (mx_dd dd_X12_runsPlain_3 17 (249, .ifCond .ne 7, 3) rfl) rfl (fun c249 => ?_) (fun c249 => ?_)
                        · have P := P.1 c249
                          refine mx_iconst (pc := 256) (v := (0 : Int32)) (mx_dd dd_X12_runsPlain_3 20 (256, .iconst 0, 1) rfl) (by decide) ?_
                          refine mx_cVI (pc := 257) (Y := mY_X12_waits) (As := [.int _, .int _]) mx_ml_X12_611 mx_y_X12_waits rfl g9 (by decide) rfl (by decide) rfl (mx_dd dd_X12_runsPlain_3 21 (257, .invokevirtual 611, 3) rfl) g5 (by decide) P (fun v12 h13 P => ?_)
                          refine mx_istore (pc := 260) (mx_dd dd_X12_runsPlain_3 22 (260, .istore 5, 2) rfl) (by decide) (lv' := [(5, _), (3, _), (0, _), (1, _), (2, _)]) rfl ?_
                          refine mx_sel [2, 3, 0] rfl ?_
                          exact P
                        · have P := P.2 c249
                          refine mx_iconst (pc := 252) (v := (1 : Int32)) (mx_dd dd_X12_runsPlain_3 18 (252, .iconst 1, 1) rfl) (by decide) ?_
                          refine mx_goto (pc := 253) 257 (mx_dd dd_X12_runsPlain_3 19 (253, .goto 4, 3) rfl) rfl ?_
                          refine mx_cVI (pc := 257) (Y := mY_X12_waits) (As := [.int _, .int _]) mx_ml_X12_611 mx_y_X12_waits rfl g9 (by decide) rfl (by decide) rfl (mx_dd dd_X12_runsPlain_3 21 (257, .invokevirtual 611, 3) rfl) g5 (by decide) P (fun v13 h14 P => ?_)
                          refine mx_istore (pc := 260) (mx_dd dd_X12_runsPlain_3 22 (260, .istore 5, 2) rfl) (by decide) (lv' := [(5, _), (3, _), (0, _), (1, _), (2, _)]) rfl ?_
                          refine mx_sel [2, 3, 0] rfl ?_
                          exact P
                      · have P := P.2 c230
                        refine mx_aload_n (pc := 233) 2 (mx_dd dd_X12_runsPlain_3 7 (233, .aload_n 0, 1) rfl) rfl rfl ?_
                        refine mx_iload_n (pc := 234) 3 (mx_dd dd_X12_runsPlain_3 8 (234, .iload_n 1, 1) rfl) rfl rfl ?_
                        refine mx_cVI (pc := 235) (Y := mY_X12_raises) (As := [.int _]) mx_ml_X12_608 mx_y_X12_raises rfl g9 (by decide) rfl (by decide) rfl (mx_dd dd_X12_runsPlain_3 9 (235, .invokevirtual 608, 3) rfl) g5 (by decide) P (fun v14 h15 P => ?_)
                        refine mx_goto (pc := 238) 260 (mx_dd dd_X12_runsPlain_3 10 (238, .goto 22, 3) rfl) rfl ?_
                        refine mx_istore (pc := 260) (mx_dd dd_X12_runsPlain_3 22 (260, .istore 5, 2) rfl) (by decide) (lv' := [(5, _), (3, _), (0, _), (1, _), (2, _)]) rfl ?_
                        refine mx_sel [2, 3, 0] rfl ?_
                        exact P
                    · have P := P.2 c213
                      refine mx_aload_n (pc := 216) 2 (mx_dd dd_X12_runsPlain_2 38 (216, .aload_n 0, 1) rfl) rfl rfl ?_
                      refine mx_iload_n (pc := 217) 3 (mx_dd dd_X12_runsPlain_2 39 (217, .iload_n 1, 1) rfl) rfl rfl ?_
                      refine mx_cVI (pc := 218) (Y := mY_X12_exits) (As := [.int _]) mx_ml_X12_605 mx_y_X12_exits rfl g9 (by decide) rfl (by decide) rfl (mx_dd dd_X12_runsPlain_3 0 (218, .invokevirtual 605, 3) rfl) g5 (by decide) P (fun v15 h16 P => ?_)
                      refine mx_goto (pc := 221) 260 (mx_dd dd_X12_runsPlain_3 1 (221, .goto 39, 3) rfl) rfl ?_
                      refine mx_istore (pc := 260) (mx_dd dd_X12_runsPlain_3 22 (260, .istore 5, 2) rfl) (by decide) (lv' := [(5, _), (3, _), (0, _), (1, _), (2, _)]) rfl ?_
                      refine mx_sel [2, 3, 0] rfl ?_
                      exact P
              · have P := P.2 c146
                refine mx_aload_n (pc := 149) 1 (mx_dd dd_X12_runsPlain_2 3 (149, .aload_n 0, 1) rfl) rfl rfl ?_
                refine mx_getI (pc := 150) mx_fl_X12_562 g7 rfl (mx_dd dd_X12_runsPlain_2 4 (150, .getfield 562, 3) rfl) ?_
                refine mx_if_ne (pc := 153) 160 (mx_dd dd_X12_runsPlain_2 5 (153, .ifCond .ne 7, 3) rfl) rfl (fun c153 => ?_) (fun c153 => ?_)
                · have P := P.1 c153
                  refine mx_iconst (pc := 160) (v := (2 : Int32)) (mx_dd dd_X12_runsPlain_2 8 (160, .iconst 2, 1) rfl) (by decide) ?_
                  refine mx_goto (pc := 161) 199 (mx_dd dd_X12_runsPlain_2 9 (161, .goto 38, 3) rfl) rfl ?_
                  refine mx_istore (pc := 199) (mx_dd dd_X12_runsPlain_2 29 (199, .istore 5, 2) rfl) (by decide) (lv' := [(5, _), (3, _), (0, _), (1, _), (2, _)]) rfl ?_
                  refine mx_iload (pc := 201) 0 (mx_dd dd_X12_runsPlain_2 30 (201, .iload 5, 2) rfl) rfl ?_
                  refine mx_iconst (pc := 203) (v := (-1 : Int32)) (mx_dd dd_X12_runsPlain_2 31 (203, .iconst (-1), 1) rfl) (by decide) ?_
                  refine mx_icmp_ne (pc := 204) 262 (mx_dd dd_X12_runsPlain_2 32 (204, .if_icmp .ne 58, 3) rfl) rfl (fun c204 => ?_) (fun c204 => ?_)
                  · have P := P.1 c204
                    refine mx_sel [2, 3, 0] rfl ?_
                    exact P
                  · have P := P.2 c204
                    refine mx_lload_n (pc := 207) 1 (mx_dd dd_X12_runsPlain_2 33 (207, .lload_n 3, 1) rfl) rfl rfl ?_
                    refine mx_aload_n (pc := 208) 2 (mx_dd dd_X12_runsPlain_2 34 (208, .aload_n 0, 1) rfl) rfl rfl ?_
                    refine mx_getL (pc := 209) mx_fl_X12_116 g7 rfl (mx_dd dd_X12_runsPlain_2 35 (209, .getfield 116, 3) rfl) ?_
                    refine mx_lcmp (pc := 212) (mx_dd dd_X12_runsPlain_2 36 (212, .lcmp, 1) rfl) ?_
                    refine mx_if_ne (pc := 213) 224 (mx_dd dd_X12_runsPlain_2 37 (213, .ifCond .ne 11, 3) rfl) rfl (fun c213 => ?_) (fun c213 => ?_)
                    · have P := P.1 c213
                      refine mx_lload_n (pc := 224) 1 (mx_dd dd_X12_runsPlain_3 2 (224, .lload_n 3, 1) rfl) rfl rfl ?_
                      refine mx_aload_n (pc := 225) 2 (mx_dd dd_X12_runsPlain_3 3 (225, .aload_n 0, 1) rfl) rfl rfl ?_
                      refine mx_getL (pc := 226) mx_fl_X12_122 g7 rfl (mx_dd dd_X12_runsPlain_3 4 (226, .getfield 122, 3) rfl) ?_
                      refine mx_lcmp (pc := 229) (mx_dd dd_X12_runsPlain_3 5 (229, .lcmp, 1) rfl) ?_
                      refine mx_if_ne (pc := 230) 241 (mx_dd dd_X12_runsPlain_3 6 (230, .ifCond .ne 11, 3) rfl) rfl (fun c230 => ?_) (fun c230 => ?_)
                      · have P := P.1 c230
                        refine mx_aload_n (pc := 241) 2 (mx_dd dd_X12_runsPlain_3 11 (241, .aload_n 0, 1) rfl) rfl rfl ?_
                        refine mx_iload_n (pc := 242) 3 (mx_dd dd_X12_runsPlain_3 12 (242, .iload_n 1, 1) rfl) rfl rfl ?_
                        refine mx_lload_n (pc := 243) 1 (mx_dd dd_X12_runsPlain_3 13 (243, .lload_n 3, 1) rfl) rfl rfl ?_
                        refine mx_aload_n (pc := 244) 2 (mx_dd dd_X12_runsPlain_3 14 (244, .aload_n 0, 1) rfl) rfl rfl ?_
                        refine mx_getL (pc := 245) mx_fl_X12_131 g7 rfl (mx_dd dd_X12_runsPlain_3 15 (245, .getfield 131, 3) rfl) ?_
                        refine mx_lcmp (pc := 248) (mx_dd dd_X12_runsPlain_3 16 (248, .lcmp, 1) rfl) ?_
                        refine mx_if_ne (pc := 249) 256 (mx_dd dd_X12_runsPlain_3 17 (249, .ifCond .ne 7, 3) rfl) rfl (fun c249 => ?_) (fun c249 => ?_)
                        · have P := P.1 c249
                          refine mx_iconst (pc := 256) (v := (0 : Int32)) (mx_dd dd_X12_runsPlain_3 20 (256, .iconst 0, 1) rfl) (by decide) ?_
                          refine mx_cVI (pc := 257) (Y := mY_X12_waits) (As := [.int _, .int _]) mx_ml_X12_611 mx_y_X12_waits rfl g7 (by decide) rfl (by decide) rfl (mx_dd dd_X12_runsPlain_3 21 (257, .invokevirtual 611, 3) rfl) g5 (by decide) P (fun v16 h17 P => ?_)
                          refine mx_istore (pc := 260) (mx_dd dd_X12_runsPlain_3 22 (260, .istore 5, 2) rfl) (by decide) (lv' := [(5, _), (3, _), (0, _), (1, _), (2, _)]) rfl ?_
                          refine mx_sel [2, 3, 0] rfl ?_
                          exact P
                        · have P := P.2 c249
                          refine mx_iconst (pc := 252) (v := (1 : Int32)) (mx_dd dd_X12_runsPlain_3 18 (252, .iconst 1, 1) rfl) (by decide) ?_
                          refine mx_goto (pc := 253) 257 (mx_dd dd_X12_runsPlain_3 19 (253, .goto 4, 3) rfl) rfl ?_
                          refine mx_cVI (pc := 257) (Y := mY_X12_waits) (As := [.int _, .int _]) mx_ml_X12_611 mx_y_X12_waits rfl g7 (by decide) rfl (by decide) rfl (mx_dd dd_X12_runsPlain_3 21 (257, .invokevirtual 611, 3) rfl) g5 (by decide) P (fun v17 h18 P => ?_)
                          refine mx_istore (pc := 260) (mx_dd dd_X12_runsPlain_3 22 (260, .istore 5, 2) rfl) (by decide) (lv' := [(5, _), (3, _), (0, _), (1, _), (2, _)]) rfl ?_
                          refine mx_sel [2, 3, 0] rfl ?_
                          exact P
                      · have P := P.2 c230
                        refine mx_aload_n (pc := 233) 2 (mx_dd dd_X12_runsPlain_3 7 (233, .aload_n 0, 1) rfl) rfl rfl ?_
                        refine mx_iload_n (pc := 234) 3 (mx_dd dd_X12_runsPlain_3 8 (234, .iload_n 1, 1) rfl) rfl rfl ?_
                        refine mx_cVI (pc := 235) (Y := mY_X12_raises) (As := [.int _]) mx_ml_X12_608 mx_y_X12_raises rfl g7 (by decide) rfl (by decide) rfl (mx_dd dd_X12_runsPlain_3 9 (235, .invokevirtual 608, 3) rfl) g5 (by decide) P (fun v18 h19 P => ?_)
                        refine mx_goto (pc := 238) 260 (mx_dd dd_X12_runsPlain_3 10 (238, .goto 22, 3) rfl) rfl ?_
                        refine mx_istore (pc := 260) (mx_dd dd_X12_runsPlain_3 22 (260, .istore 5, 2) rfl) (by decide) (lv' := [(5, _), (3, _), (0, _), (1, _), (2, _)]) rfl ?_
                        refine mx_sel [2, 3, 0] rfl ?_
                        exact P
                    · have P := P.2 c213
                      refine mx_aload_n (pc := 216) 2 (mx_dd dd_X12_runsPlain_2 38 (216, .aload_n 0, 1) rfl) rfl rfl ?_
                      refine mx_iload_n (pc := 217) 3 (mx_dd dd_X12_runsPlain_2 39 (217, .iload_n 1, 1) rfl) rfl rfl ?_
                      refine mx_cVI (pc := 218) (Y := mY_X12_exits) (As := [.int _]) mx_ml_X12_605 mx_y_X12_exits rfl g7 (by decide) rfl (by decide) rfl (mx_dd dd_X12_runsPlain_3 0 (218, .invokevirtual 605, 3) rfl) g5 (by decide) P (fun v19 h20 P => ?_)
                      refine mx_goto (pc := 221) 260 (mx_dd dd_X12_runsPlain_3 1 (221, .goto 39, 3) rfl) rfl ?_
                      refine mx_istore (pc := 260) (mx_dd dd_X12_runsPlain_3 22 (260, .istore 5, 2) rfl) (by decide) (lv' := [(5, _), (3, _), (0, _), (1, _), (2, _)]) rfl ?_
                      refine mx_sel [2, 3, 0] rfl ?_
                      exact P
                · have P := P.2 c153
                  refine mx_iconst (pc := 156) (v := (0 : Int32)) (mx_dd dd_X12_runsPlain_2 6 (156, .iconst 0, 1) rfl) (by decide) ?_
                  refine mx_goto (pc := 157) 199 (mx_dd dd_X12_runsPlain_2 7 (157, .goto 42, 3) rfl) rfl ?_
                  refine mx_istore (pc := 199) (mx_dd dd_X12_runsPlain_2 29 (199, .istore 5, 2) rfl) (by decide) (lv' := [(5, _), (3, _), (0, _), (1, _), (2, _)]) rfl ?_
                  refine mx_iload (pc := 201) 0 (mx_dd dd_X12_runsPlain_2 30 (201, .iload 5, 2) rfl) rfl ?_
                  refine mx_iconst (pc := 203) (v := (-1 : Int32)) (mx_dd dd_X12_runsPlain_2 31 (203, .iconst (-1), 1) rfl) (by decide) ?_
                  refine mx_icmp_ne (pc := 204) 262 (mx_dd dd_X12_runsPlain_2 32 (204, .if_icmp .ne 58, 3) rfl) rfl (fun c204 => ?_) (fun c204 => ?_)
                  · have P := P.1 c204
                    refine mx_sel [2, 3, 0] rfl ?_
                    exact P
                  · have P := P.2 c204
                    refine mx_lload_n (pc := 207) 1 (mx_dd dd_X12_runsPlain_2 33 (207, .lload_n 3, 1) rfl) rfl rfl ?_
                    refine mx_aload_n (pc := 208) 2 (mx_dd dd_X12_runsPlain_2 34 (208, .aload_n 0, 1) rfl) rfl rfl ?_
                    refine mx_getL (pc := 209) mx_fl_X12_116 g7 rfl (mx_dd dd_X12_runsPlain_2 35 (209, .getfield 116, 3) rfl) ?_
                    refine mx_lcmp (pc := 212) (mx_dd dd_X12_runsPlain_2 36 (212, .lcmp, 1) rfl) ?_
                    refine mx_if_ne (pc := 213) 224 (mx_dd dd_X12_runsPlain_2 37 (213, .ifCond .ne 11, 3) rfl) rfl (fun c213 => ?_) (fun c213 => ?_)
                    · have P := P.1 c213
                      refine mx_lload_n (pc := 224) 1 (mx_dd dd_X12_runsPlain_3 2 (224, .lload_n 3, 1) rfl) rfl rfl ?_
                      refine mx_aload_n (pc := 225) 2 (mx_dd dd_X12_runsPlain_3 3 (225, .aload_n 0, 1) rfl) rfl rfl ?_
                      refine mx_getL (pc := 226) mx_fl_X12_122 g7 rfl (mx_dd dd_X12_runsPlain_3 4 (226, .getfield 122, 3) rfl) ?_
                      refine mx_lcmp (pc := 229) (mx_dd dd_X12_runsPlain_3 5 (229, .lcmp, 1) rfl) ?_
                      refine mx_if_ne (pc := 230) 241 (mx_dd dd_X12_runsPlain_3 6 (230, .ifCond .ne 11, 3) rfl) rfl (fun c230 => ?_) (fun c230 => ?_)
                      · have P := P.1 c230
                        refine mx_aload_n (pc := 241) 2 (mx_dd dd_X12_runsPlain_3 11 (241, .aload_n 0, 1) rfl) rfl rfl ?_
                        refine mx_iload_n (pc := 242) 3 (mx_dd dd_X12_runsPlain_3 12 (242, .iload_n 1, 1) rfl) rfl rfl ?_
                        refine mx_lload_n (pc := 243) 1 (mx_dd dd_X12_runsPlain_3 13 (243, .lload_n 3, 1) rfl) rfl rfl ?_
                        refine mx_aload_n (pc := 244) 2 (mx_dd dd_X12_runsPlain_3 14 (244, .aload_n 0, 1) rfl) rfl rfl ?_
                        refine mx_getL (pc := 245) mx_fl_X12_131 g7 rfl (mx_dd dd_X12_runsPlain_3 15 (245, .getfield 131, 3) rfl) ?_
                        refine mx_lcmp (pc := 248) (mx_dd dd_X12_runsPlain_3 16 (248, .lcmp, 1) rfl) ?_
                        refine mx_if_ne (pc := 249) 256 (mx_dd dd_X12_runsPlain_3 17 (249, .ifCond .ne 7, 3) rfl) rfl (fun c249 => ?_) (fun c249 => ?_)
                        · have P := P.1 c249
                          refine mx_iconst (pc := 256) (v := (0 : Int32)) (mx_dd dd_X12_runsPlain_3 20 (256, .iconst 0, 1) rfl) (by decide) ?_
                          refine mx_cVI (pc := 257) (Y := mY_X12_waits) (As := [.int _, .int _]) mx_ml_X12_611 mx_y_X12_waits rfl g7 (by decide) rfl (by decide) rfl (mx_dd dd_X12_runsPlain_3 21 (257, .invokevirtual 611, 3) rfl) g5 (by decide) P (fun v20 h21 P => ?_)
                          refine mx_istore (pc := 260) (mx_dd dd_X12_runsPlain_3 22 (260, .istore 5, 2) rfl) (by decide) (lv' := [(5, _), (3, _), (0, _), (1, _), (2, _)]) rfl ?_
                          refine mx_sel [2, 3, 0] rfl ?_
                          exact P
                        · have P := P.2 c249
                          refine mx_iconst (pc := 252) (v := (1 : Int32)) (mx_dd dd_X12_runsPlain_3 18 (252, .iconst 1, 1) rfl) (by decide) ?_
                          refine mx_goto (pc := 253) 257 (mx_dd dd_X12_runsPlain_3 19 (253, .goto 4, 3) rfl) rfl ?_
                          refine mx_cVI (pc := 257) (Y := mY_X12_waits) (As := [.int _, .int _]) mx_ml_X12_611 mx_y_X12_waits rfl g7 (by decide) rfl (by decide) rfl (mx_dd dd_X12_runsPlain_3 21 (257, .invokevirtual 611, 3) rfl) g5 (by decide) P (fun v21 h22 P => ?_)
                          refine mx_istore (pc := 260) (mx_dd dd_X12_runsPlain_3 22 (260, .istore 5, 2) rfl) (by decide) (lv' := [(5, _), (3, _), (0, _), (1, _), (2, _)]) rfl ?_
                          refine mx_sel [2, 3, 0] rfl ?_
                          exact P
                      · have P := P.2 c230
                        refine mx_aload_n (pc := 233) 2 (mx_dd dd_X12_runsPlain_3 7 (233, .aload_n 0, 1) rfl) rfl rfl ?_
                        refine mx_iload_n (pc := 234) 3 (mx_dd dd_X12_runsPlain_3 8 (234, .iload_n 1, 1) rfl) rfl rfl ?_
                        refine mx_cVI (pc := 235) (Y := mY_X12_raises) (As := [.int _]) mx_ml_X12_608 mx_y_X12_raises rfl g7 (by decide) rfl (by decide) rfl (mx_dd dd_X12_runsPlain_3 9 (235, .invokevirtual 608, 3) rfl) g5 (by decide) P (fun v22 h23 P => ?_)
                        refine mx_goto (pc := 238) 260 (mx_dd dd_X12_runsPlain_3 10 (238, .goto 22, 3) rfl) rfl ?_
                        refine mx_istore (pc := 260) (mx_dd dd_X12_runsPlain_3 22 (260, .istore 5, 2) rfl) (by decide) (lv' := [(5, _), (3, _), (0, _), (1, _), (2, _)]) rfl ?_
                        refine mx_sel [2, 3, 0] rfl ?_
                        exact P
                    · have P := P.2 c213
                      refine mx_aload_n (pc := 216) 2 (mx_dd dd_X12_runsPlain_2 38 (216, .aload_n 0, 1) rfl) rfl rfl ?_
                      refine mx_iload_n (pc := 217) 3 (mx_dd dd_X12_runsPlain_2 39 (217, .iload_n 1, 1) rfl) rfl rfl ?_
                      refine mx_cVI (pc := 218) (Y := mY_X12_exits) (As := [.int _]) mx_ml_X12_605 mx_y_X12_exits rfl g7 (by decide) rfl (by decide) rfl (mx_dd dd_X12_runsPlain_3 0 (218, .invokevirtual 605, 3) rfl) g5 (by decide) P (fun v23 h24 P => ?_)
                      refine mx_goto (pc := 221) 260 (mx_dd dd_X12_runsPlain_3 1 (221, .goto 39, 3) rfl) rfl ?_
                      refine mx_istore (pc := 260) (mx_dd dd_X12_runsPlain_3 22 (260, .istore 5, 2) rfl) (by decide) (lv' := [(5, _), (3, _), (0, _), (1, _), (2, _)]) rfl ?_
                      refine mx_sel [2, 3, 0] rfl ?_
                      exact P
            · have P := P.2 c129
              refine mx_aload_n (pc := 132) 1 (mx_dd dd_X12_runsPlain_1 34 (132, .aload_n 0, 1) rfl) rfl rfl ?_
              refine mx_iload_n (pc := 133) 2 (mx_dd dd_X12_runsPlain_1 35 (133, .iload_n 1, 1) rfl) rfl rfl ?_
              refine mx_cVI (pc := 134) (Y := mY_X12_copies) (As := [.int _]) mx_ml_X12_596 mx_y_X12_copies rfl g7 (by decide) rfl (by decide) rfl (mx_dd dd_X12_runsPlain_1 36 (134, .invokevirtual 596, 3) rfl) g5 (by decide) P (fun v24 h25 P => ?_)
              refine mx_goto (pc := 137) 199 (mx_dd dd_X12_runsPlain_1 37 (137, .goto 62, 3) rfl) rfl ?_
              refine mx_istore (pc := 199) (mx_dd dd_X12_runsPlain_2 29 (199, .istore 5, 2) rfl) (by decide) (lv' := [(5, _), (3, _), (0, _), (1, _), (2, _)]) rfl ?_
              refine mx_iload (pc := 201) 0 (mx_dd dd_X12_runsPlain_2 30 (201, .iload 5, 2) rfl) rfl ?_
              refine mx_iconst (pc := 203) (v := (-1 : Int32)) (mx_dd dd_X12_runsPlain_2 31 (203, .iconst (-1), 1) rfl) (by decide) ?_
              refine mx_icmp_ne (pc := 204) 262 (mx_dd dd_X12_runsPlain_2 32 (204, .if_icmp .ne 58, 3) rfl) rfl (fun c204 => ?_) (fun c204 => ?_)
              · have P := P.1 c204
                refine mx_sel [2, 3, 0] rfl ?_
                exact P
              · have P := P.2 c204
                refine mx_lload_n (pc := 207) 1 (mx_dd dd_X12_runsPlain_2 33 (207, .lload_n 3, 1) rfl) rfl rfl ?_
                refine mx_aload_n (pc := 208) 2 (mx_dd dd_X12_runsPlain_2 34 (208, .aload_n 0, 1) rfl) rfl rfl ?_
                obtain ⟨g10, P⟩ := P
                refine mx_getL (pc := 209) mx_fl_X12_116 g10 rfl (mx_dd dd_X12_runsPlain_2 35 (209, .getfield 116, 3) rfl) ?_
                refine mx_lcmp (pc := 212) (mx_dd dd_X12_runsPlain_2 36 (212, .lcmp, 1) rfl) ?_
                refine mx_if_ne (pc := 213) 224 (mx_dd dd_X12_runsPlain_2 37 (213, .ifCond .ne 11, 3) rfl) rfl (fun c213 => ?_) (fun c213 => ?_)
                · have P := P.1 c213
                  refine mx_lload_n (pc := 224) 1 (mx_dd dd_X12_runsPlain_3 2 (224, .lload_n 3, 1) rfl) rfl rfl ?_
                  refine mx_aload_n (pc := 225) 2 (mx_dd dd_X12_runsPlain_3 3 (225, .aload_n 0, 1) rfl) rfl rfl ?_
                  refine mx_getL (pc := 226) mx_fl_X12_122 g10 rfl (mx_dd dd_X12_runsPlain_3 4 (226, .getfield 122, 3) rfl) ?_
                  refine mx_lcmp (pc := 229) (mx_dd dd_X12_runsPlain_3 5 (229, .lcmp, 1) rfl) ?_
                  refine mx_if_ne (pc := 230) 241 (mx_dd dd_X12_runsPlain_3 6 (230, .ifCond .ne 11, 3) rfl) rfl (fun c230 => ?_) (fun c230 => ?_)
                  · have P := P.1 c230
                    refine mx_aload_n (pc := 241) 2 (mx_dd dd_X12_runsPlain_3 11 (241, .aload_n 0, 1) rfl) rfl rfl ?_
                    refine mx_iload_n (pc := 242) 3 (mx_dd dd_X12_runsPlain_3 12 (242, .iload_n 1, 1) rfl) rfl rfl ?_
                    refine mx_lload_n (pc := 243) 1 (mx_dd dd_X12_runsPlain_3 13 (243, .lload_n 3, 1) rfl) rfl rfl ?_
                    refine mx_aload_n (pc := 244) 2 (mx_dd dd_X12_runsPlain_3 14 (244, .aload_n 0, 1) rfl) rfl rfl ?_
                    refine mx_getL (pc := 245) mx_fl_X12_131 g10 rfl (mx_dd dd_X12_runsPlain_3 15 (245, .getfield 131, 3) rfl) ?_
                    refine mx_lcmp (pc := 248) (mx_dd dd_X12_runsPlain_3 16 (248, .lcmp, 1) rfl) ?_
                    refine mx_if_ne (pc := 249) 256 (mx_dd dd_X12_runsPlain_3 17 (249, .ifCond .ne 7, 3) rfl) rfl (fun c249 => ?_) (fun c249 => ?_)
                    · have P := P.1 c249
                      refine mx_iconst (pc := 256) (v := (0 : Int32)) (mx_dd dd_X12_runsPlain_3 20 (256, .iconst 0, 1) rfl) (by decide) ?_
                      refine mx_cVI (pc := 257) (Y := mY_X12_waits) (As := [.int _, .int _]) mx_ml_X12_611 mx_y_X12_waits rfl g10 (by decide) rfl (by decide) rfl (mx_dd dd_X12_runsPlain_3 21 (257, .invokevirtual 611, 3) rfl) g5 (by decide) P (fun v25 h26 P => ?_)
                      refine mx_istore (pc := 260) (mx_dd dd_X12_runsPlain_3 22 (260, .istore 5, 2) rfl) (by decide) (lv' := [(5, _), (3, _), (0, _), (1, _), (2, _)]) rfl ?_
                      refine mx_sel [2, 3, 0] rfl ?_
                      exact P
                    · have P := P.2 c249
                      refine mx_iconst (pc := 252) (v := (1 : Int32)) (mx_dd dd_X12_runsPlain_3 18 (252, .iconst 1, 1) rfl) (by decide) ?_
                      refine mx_goto (pc := 253) 257 (mx_dd dd_X12_runsPlain_3 19 (253, .goto 4, 3) rfl) rfl ?_
                      refine mx_cVI (pc := 257) (Y := mY_X12_waits) (As := [.int _, .int _]) mx_ml_X12_611 mx_y_X12_waits rfl g10 (by decide) rfl (by decide) rfl (mx_dd dd_X12_runsPlain_3 21 (257, .invokevirtual 611, 3) rfl) g5 (by decide) P (fun v26 h27 P => ?_)
                      refine mx_istore (pc := 260) (mx_dd dd_X12_runsPlain_3 22 (260, .istore 5, 2) rfl) (by decide) (lv' := [(5, _), (3, _), (0, _), (1, _), (2, _)]) rfl ?_
                      refine mx_sel [2, 3, 0] rfl ?_
                      exact P
                  · have P := P.2 c230
                    refine mx_aload_n (pc := 233) 2 (mx_dd dd_X12_runsPlain_3 7 (233, .aload_n 0, 1) rfl) rfl rfl ?_
                    refine mx_iload_n (pc := 234) 3 (mx_dd dd_X12_runsPlain_3 8 (234, .iload_n 1, 1) rfl) rfl rfl ?_
                    refine mx_cVI (pc := 235) (Y := mY_X12_raises) (As := [.int _]) mx_ml_X12_608 mx_y_X12_raises rfl g10 (by decide) rfl (by decide) rfl (mx_dd dd_X12_runsPlain_3 9 (235, .invokevirtual 608, 3) rfl) g5 (by decide) P (fun v27 h28 P => ?_)
                    refine mx_goto (pc := 238) 260 (mx_dd dd_X12_runsPlain_3 10 (238, .goto 22, 3) rfl) rfl ?_
                    refine mx_istore (pc := 260) (mx_dd dd_X12_runsPlain_3 22 (260, .istore 5, 2) rfl) (by decide) (lv' := [(5, _), (3, _), (0, _), (1, _), (2, _)]) rfl ?_
                    refine mx_sel [2, 3, 0] rfl ?_
                    exact P
                · have P := P.2 c213
                  refine mx_aload_n (pc := 216) 2 (mx_dd dd_X12_runsPlain_2 38 (216, .aload_n 0, 1) rfl) rfl rfl ?_
                  refine mx_iload_n (pc := 217) 3 (mx_dd dd_X12_runsPlain_2 39 (217, .iload_n 1, 1) rfl) rfl rfl ?_
                  refine mx_cVI (pc := 218) (Y := mY_X12_exits) (As := [.int _]) mx_ml_X12_605 mx_y_X12_exits rfl g10 (by decide) rfl (by decide) rfl (mx_dd dd_X12_runsPlain_3 0 (218, .invokevirtual 605, 3) rfl) g5 (by decide) P (fun v28 h29 P => ?_)
                  refine mx_goto (pc := 221) 260 (mx_dd dd_X12_runsPlain_3 1 (221, .goto 39, 3) rfl) rfl ?_
                  refine mx_istore (pc := 260) (mx_dd dd_X12_runsPlain_3 22 (260, .istore 5, 2) rfl) (by decide) (lv' := [(5, _), (3, _), (0, _), (1, _), (2, _)]) rfl ?_
                  refine mx_sel [2, 3, 0] rfl ?_
                  exact P
          · have P := P.2 c112
            refine mx_aload_n (pc := 115) 1 (mx_dd dd_X12_runsPlain_1 25 (115, .aload_n 0, 1) rfl) rfl rfl ?_
            refine mx_iload_n (pc := 116) 2 (mx_dd dd_X12_runsPlain_1 26 (116, .iload_n 1, 1) rfl) rfl rfl ?_
            refine mx_cVI (pc := 117) (Y := mY_X12_readsInto) (As := [.int _]) mx_ml_X12_593 mx_y_X12_readsInto rfl g7 (by decide) rfl (by decide) rfl (mx_dd dd_X12_runsPlain_1 27 (117, .invokevirtual 593, 3) rfl) g5 (by decide) P (fun v29 h30 P => ?_)
            refine mx_goto (pc := 120) 199 (mx_dd dd_X12_runsPlain_1 28 (120, .goto 79, 3) rfl) rfl ?_
            refine mx_istore (pc := 199) (mx_dd dd_X12_runsPlain_2 29 (199, .istore 5, 2) rfl) (by decide) (lv' := [(5, _), (3, _), (0, _), (1, _), (2, _)]) rfl ?_
            refine mx_iload (pc := 201) 0 (mx_dd dd_X12_runsPlain_2 30 (201, .iload 5, 2) rfl) rfl ?_
            refine mx_iconst (pc := 203) (v := (-1 : Int32)) (mx_dd dd_X12_runsPlain_2 31 (203, .iconst (-1), 1) rfl) (by decide) ?_
            refine mx_icmp_ne (pc := 204) 262 (mx_dd dd_X12_runsPlain_2 32 (204, .if_icmp .ne 58, 3) rfl) rfl (fun c204 => ?_) (fun c204 => ?_)
            · have P := P.1 c204
              refine mx_sel [2, 3, 0] rfl ?_
              exact P
            · have P := P.2 c204
              refine mx_lload_n (pc := 207) 1 (mx_dd dd_X12_runsPlain_2 33 (207, .lload_n 3, 1) rfl) rfl rfl ?_
              refine mx_aload_n (pc := 208) 2 (mx_dd dd_X12_runsPlain_2 34 (208, .aload_n 0, 1) rfl) rfl rfl ?_
              obtain ⟨g11, P⟩ := P
              refine mx_getL (pc := 209) mx_fl_X12_116 g11 rfl (mx_dd dd_X12_runsPlain_2 35 (209, .getfield 116, 3) rfl) ?_
              refine mx_lcmp (pc := 212) (mx_dd dd_X12_runsPlain_2 36 (212, .lcmp, 1) rfl) ?_
              refine mx_if_ne (pc := 213) 224 (mx_dd dd_X12_runsPlain_2 37 (213, .ifCond .ne 11, 3) rfl) rfl (fun c213 => ?_) (fun c213 => ?_)
              · have P := P.1 c213
                refine mx_lload_n (pc := 224) 1 (mx_dd dd_X12_runsPlain_3 2 (224, .lload_n 3, 1) rfl) rfl rfl ?_
                refine mx_aload_n (pc := 225) 2 (mx_dd dd_X12_runsPlain_3 3 (225, .aload_n 0, 1) rfl) rfl rfl ?_
                refine mx_getL (pc := 226) mx_fl_X12_122 g11 rfl (mx_dd dd_X12_runsPlain_3 4 (226, .getfield 122, 3) rfl) ?_
                refine mx_lcmp (pc := 229) (mx_dd dd_X12_runsPlain_3 5 (229, .lcmp, 1) rfl) ?_
                refine mx_if_ne (pc := 230) 241 (mx_dd dd_X12_runsPlain_3 6 (230, .ifCond .ne 11, 3) rfl) rfl (fun c230 => ?_) (fun c230 => ?_)
                · have P := P.1 c230
                  refine mx_aload_n (pc := 241) 2 (mx_dd dd_X12_runsPlain_3 11 (241, .aload_n 0, 1) rfl) rfl rfl ?_
                  refine mx_iload_n (pc := 242) 3 (mx_dd dd_X12_runsPlain_3 12 (242, .iload_n 1, 1) rfl) rfl rfl ?_
                  refine mx_lload_n (pc := 243) 1 (mx_dd dd_X12_runsPlain_3 13 (243, .lload_n 3, 1) rfl) rfl rfl ?_
                  refine mx_aload_n (pc := 244) 2 (mx_dd dd_X12_runsPlain_3 14 (244, .aload_n 0, 1) rfl) rfl rfl ?_
                  refine mx_getL (pc := 245) mx_fl_X12_131 g11 rfl (mx_dd dd_X12_runsPlain_3 15 (245, .getfield 131, 3) rfl) ?_
                  refine mx_lcmp (pc := 248) (mx_dd dd_X12_runsPlain_3 16 (248, .lcmp, 1) rfl) ?_
                  refine mx_if_ne (pc := 249) 256 (mx_dd dd_X12_runsPlain_3 17 (249, .ifCond .ne 7, 3) rfl) rfl (fun c249 => ?_) (fun c249 => ?_)
                  · have P := P.1 c249
                    refine mx_iconst (pc := 256) (v := (0 : Int32)) (mx_dd dd_X12_runsPlain_3 20 (256, .iconst 0, 1) rfl) (by decide) ?_
                    refine mx_cVI (pc := 257) (Y := mY_X12_waits) (As := [.int _, .int _]) mx_ml_X12_611 mx_y_X12_waits rfl g11 (by decide) rfl (by decide) rfl (mx_dd dd_X12_runsPlain_3 21 (257, .invokevirtual 611, 3) rfl) g5 (by decide) P (fun v30 h31 P => ?_)
                    refine mx_istore (pc := 260) (mx_dd dd_X12_runsPlain_3 22 (260, .istore 5, 2) rfl) (by decide) (lv' := [(5, _), (3, _), (0, _), (1, _), (2, _)]) rfl ?_
                    refine mx_sel [2, 3, 0] rfl ?_
                    exact P
                  · have P := P.2 c249
                    refine mx_iconst (pc := 252) (v := (1 : Int32)) (mx_dd dd_X12_runsPlain_3 18 (252, .iconst 1, 1) rfl) (by decide) ?_
                    refine mx_goto (pc := 253) 257 (mx_dd dd_X12_runsPlain_3 19 (253, .goto 4, 3) rfl) rfl ?_
                    refine mx_cVI (pc := 257) (Y := mY_X12_waits) (As := [.int _, .int _]) mx_ml_X12_611 mx_y_X12_waits rfl g11 (by decide) rfl (by decide) rfl (mx_dd dd_X12_runsPlain_3 21 (257, .invokevirtual 611, 3) rfl) g5 (by decide) P (fun v31 h32 P => ?_)
                    refine mx_istore (pc := 260) (mx_dd dd_X12_runsPlain_3 22 (260, .istore 5, 2) rfl) (by decide) (lv' := [(5, _), (3, _), (0, _), (1, _), (2, _)]) rfl ?_
                    refine mx_sel [2, 3, 0] rfl ?_
                    exact P
                · have P := P.2 c230
                  refine mx_aload_n (pc := 233) 2 (mx_dd dd_X12_runsPlain_3 7 (233, .aload_n 0, 1) rfl) rfl rfl ?_
                  refine mx_iload_n (pc := 234) 3 (mx_dd dd_X12_runsPlain_3 8 (234, .iload_n 1, 1) rfl) rfl rfl ?_
                  refine mx_cVI (pc := 235) (Y := mY_X12_raises) (As := [.int _]) mx_ml_X12_608 mx_y_X12_raises rfl g11 (by decide) rfl (by decide) rfl (mx_dd dd_X12_runsPlain_3 9 (235, .invokevirtual 608, 3) rfl) g5 (by decide) P (fun v32 h33 P => ?_)
                  refine mx_goto (pc := 238) 260 (mx_dd dd_X12_runsPlain_3 10 (238, .goto 22, 3) rfl) rfl ?_
                  refine mx_istore (pc := 260) (mx_dd dd_X12_runsPlain_3 22 (260, .istore 5, 2) rfl) (by decide) (lv' := [(5, _), (3, _), (0, _), (1, _), (2, _)]) rfl ?_
                  refine mx_sel [2, 3, 0] rfl ?_
                  exact P
              · have P := P.2 c213
                refine mx_aload_n (pc := 216) 2 (mx_dd dd_X12_runsPlain_2 38 (216, .aload_n 0, 1) rfl) rfl rfl ?_
                refine mx_iload_n (pc := 217) 3 (mx_dd dd_X12_runsPlain_2 39 (217, .iload_n 1, 1) rfl) rfl rfl ?_
                refine mx_cVI (pc := 218) (Y := mY_X12_exits) (As := [.int _]) mx_ml_X12_605 mx_y_X12_exits rfl g11 (by decide) rfl (by decide) rfl (mx_dd dd_X12_runsPlain_3 0 (218, .invokevirtual 605, 3) rfl) g5 (by decide) P (fun v33 h34 P => ?_)
                refine mx_goto (pc := 221) 260 (mx_dd dd_X12_runsPlain_3 1 (221, .goto 39, 3) rfl) rfl ?_
                refine mx_istore (pc := 260) (mx_dd dd_X12_runsPlain_3 22 (260, .istore 5, 2) rfl) (by decide) (lv' := [(5, _), (3, _), (0, _), (1, _), (2, _)]) rfl ?_
                refine mx_sel [2, 3, 0] rfl ?_
                exact P
        · have P := P.2 c95
          refine mx_aload_n (pc := 98) 1 (mx_dd dd_X12_runsPlain_1 16 (98, .aload_n 0, 1) rfl) rfl rfl ?_
          refine mx_iload_n (pc := 99) 2 (mx_dd dd_X12_runsPlain_1 17 (99, .iload_n 1, 1) rfl) rfl rfl ?_
          refine mx_cVI (pc := 100) (Y := mY_X12_echoes) (As := [.int _]) mx_ml_X12_590 mx_y_X12_echoes rfl g7 (by decide) rfl (by decide) rfl (mx_dd dd_X12_runsPlain_1 18 (100, .invokevirtual 590, 3) rfl) g5 (by decide) P (fun v34 h35 P => ?_)
          refine mx_goto (pc := 103) 199 (mx_dd dd_X12_runsPlain_1 19 (103, .goto 96, 3) rfl) rfl ?_
          refine mx_istore (pc := 199) (mx_dd dd_X12_runsPlain_2 29 (199, .istore 5, 2) rfl) (by decide) (lv' := [(5, _), (3, _), (0, _), (1, _), (2, _)]) rfl ?_
          refine mx_iload (pc := 201) 0 (mx_dd dd_X12_runsPlain_2 30 (201, .iload 5, 2) rfl) rfl ?_
          refine mx_iconst (pc := 203) (v := (-1 : Int32)) (mx_dd dd_X12_runsPlain_2 31 (203, .iconst (-1), 1) rfl) (by decide) ?_
          refine mx_icmp_ne (pc := 204) 262 (mx_dd dd_X12_runsPlain_2 32 (204, .if_icmp .ne 58, 3) rfl) rfl (fun c204 => ?_) (fun c204 => ?_)
          · have P := P.1 c204
            refine mx_sel [2, 3, 0] rfl ?_
            exact P
          · have P := P.2 c204
            refine mx_lload_n (pc := 207) 1 (mx_dd dd_X12_runsPlain_2 33 (207, .lload_n 3, 1) rfl) rfl rfl ?_
            refine mx_aload_n (pc := 208) 2 (mx_dd dd_X12_runsPlain_2 34 (208, .aload_n 0, 1) rfl) rfl rfl ?_
            obtain ⟨g12, P⟩ := P
            refine mx_getL (pc := 209) mx_fl_X12_116 g12 rfl (mx_dd dd_X12_runsPlain_2 35 (209, .getfield 116, 3) rfl) ?_
            refine mx_lcmp (pc := 212) (mx_dd dd_X12_runsPlain_2 36 (212, .lcmp, 1) rfl) ?_
            refine mx_if_ne (pc := 213) 224 (mx_dd dd_X12_runsPlain_2 37 (213, .ifCond .ne 11, 3) rfl) rfl (fun c213 => ?_) (fun c213 => ?_)
            · have P := P.1 c213
              refine mx_lload_n (pc := 224) 1 (mx_dd dd_X12_runsPlain_3 2 (224, .lload_n 3, 1) rfl) rfl rfl ?_
              refine mx_aload_n (pc := 225) 2 (mx_dd dd_X12_runsPlain_3 3 (225, .aload_n 0, 1) rfl) rfl rfl ?_
              refine mx_getL (pc := 226) mx_fl_X12_122 g12 rfl (mx_dd dd_X12_runsPlain_3 4 (226, .getfield 122, 3) rfl) ?_
              refine mx_lcmp (pc := 229) (mx_dd dd_X12_runsPlain_3 5 (229, .lcmp, 1) rfl) ?_
              refine mx_if_ne (pc := 230) 241 (mx_dd dd_X12_runsPlain_3 6 (230, .ifCond .ne 11, 3) rfl) rfl (fun c230 => ?_) (fun c230 => ?_)
              · have P := P.1 c230
                refine mx_aload_n (pc := 241) 2 (mx_dd dd_X12_runsPlain_3 11 (241, .aload_n 0, 1) rfl) rfl rfl ?_
                refine mx_iload_n (pc := 242) 3 (mx_dd dd_X12_runsPlain_3 12 (242, .iload_n 1, 1) rfl) rfl rfl ?_
                refine mx_lload_n (pc := 243) 1 (mx_dd dd_X12_runsPlain_3 13 (243, .lload_n 3, 1) rfl) rfl rfl ?_
                refine mx_aload_n (pc := 244) 2 (mx_dd dd_X12_runsPlain_3 14 (244, .aload_n 0, 1) rfl) rfl rfl ?_
                refine mx_getL (pc := 245) mx_fl_X12_131 g12 rfl (mx_dd dd_X12_runsPlain_3 15 (245, .getfield 131, 3) rfl) ?_
                refine mx_lcmp (pc := 248) (mx_dd dd_X12_runsPlain_3 16 (248, .lcmp, 1) rfl) ?_
                refine mx_if_ne (pc := 249) 256 (mx_dd dd_X12_runsPlain_3 17 (249, .ifCond .ne 7, 3) rfl) rfl (fun c249 => ?_) (fun c249 => ?_)
                · have P := P.1 c249
                  refine mx_iconst (pc := 256) (v := (0 : Int32)) (mx_dd dd_X12_runsPlain_3 20 (256, .iconst 0, 1) rfl) (by decide) ?_
                  refine mx_cVI (pc := 257) (Y := mY_X12_waits) (As := [.int _, .int _]) mx_ml_X12_611 mx_y_X12_waits rfl g12 (by decide) rfl (by decide) rfl (mx_dd dd_X12_runsPlain_3 21 (257, .invokevirtual 611, 3) rfl) g5 (by decide) P (fun v35 h36 P => ?_)
                  refine mx_istore (pc := 260) (mx_dd dd_X12_runsPlain_3 22 (260, .istore 5, 2) rfl) (by decide) (lv' := [(5, _), (3, _), (0, _), (1, _), (2, _)]) rfl ?_
                  refine mx_sel [2, 3, 0] rfl ?_
                  exact P
                · have P := P.2 c249
                  refine mx_iconst (pc := 252) (v := (1 : Int32)) (mx_dd dd_X12_runsPlain_3 18 (252, .iconst 1, 1) rfl) (by decide) ?_
                  refine mx_goto (pc := 253) 257 (mx_dd dd_X12_runsPlain_3 19 (253, .goto 4, 3) rfl) rfl ?_
                  refine mx_cVI (pc := 257) (Y := mY_X12_waits) (As := [.int _, .int _]) mx_ml_X12_611 mx_y_X12_waits rfl g12 (by decide) rfl (by decide) rfl (mx_dd dd_X12_runsPlain_3 21 (257, .invokevirtual 611, 3) rfl) g5 (by decide) P (fun v36 h37 P => ?_)
                  refine mx_istore (pc := 260) (mx_dd dd_X12_runsPlain_3 22 (260, .istore 5, 2) rfl) (by decide) (lv' := [(5, _), (3, _), (0, _), (1, _), (2, _)]) rfl ?_
                  refine mx_sel [2, 3, 0] rfl ?_
                  exact P
              · have P := P.2 c230
                refine mx_aload_n (pc := 233) 2 (mx_dd dd_X12_runsPlain_3 7 (233, .aload_n 0, 1) rfl) rfl rfl ?_
                refine mx_iload_n (pc := 234) 3 (mx_dd dd_X12_runsPlain_3 8 (234, .iload_n 1, 1) rfl) rfl rfl ?_
                refine mx_cVI (pc := 235) (Y := mY_X12_raises) (As := [.int _]) mx_ml_X12_608 mx_y_X12_raises rfl g12 (by decide) rfl (by decide) rfl (mx_dd dd_X12_runsPlain_3 9 (235, .invokevirtual 608, 3) rfl) g5 (by decide) P (fun v37 h38 P => ?_)
                refine mx_goto (pc := 238) 260 (mx_dd dd_X12_runsPlain_3 10 (238, .goto 22, 3) rfl) rfl ?_
                refine mx_istore (pc := 260) (mx_dd dd_X12_runsPlain_3 22 (260, .istore 5, 2) rfl) (by decide) (lv' := [(5, _), (3, _), (0, _), (1, _), (2, _)]) rfl ?_
                refine mx_sel [2, 3, 0] rfl ?_
                exact P
            · have P := P.2 c213
              refine mx_aload_n (pc := 216) 2 (mx_dd dd_X12_runsPlain_2 38 (216, .aload_n 0, 1) rfl) rfl rfl ?_
              refine mx_iload_n (pc := 217) 3 (mx_dd dd_X12_runsPlain_2 39 (217, .iload_n 1, 1) rfl) rfl rfl ?_
              refine mx_cVI (pc := 218) (Y := mY_X12_exits) (As := [.int _]) mx_ml_X12_605 mx_y_X12_exits rfl g12 (by decide) rfl (by decide) rfl (mx_dd dd_X12_runsPlain_3 0 (218, .invokevirtual 605, 3) rfl) g5 (by decide) P (fun v38 h39 P => ?_)
              refine mx_goto (pc := 221) 260 (mx_dd dd_X12_runsPlain_3 1 (221, .goto 39, 3) rfl) rfl ?_
              refine mx_istore (pc := 260) (mx_dd dd_X12_runsPlain_3 22 (260, .istore 5, 2) rfl) (by decide) (lv' := [(5, _), (3, _), (0, _), (1, _), (2, _)]) rfl ?_
              refine mx_sel [2, 3, 0] rfl ?_
              exact P
      · have P := P.2 c82
        refine mx_iconst (pc := 85) (v := (1 : Int32)) (mx_dd dd_X12_runsPlain_1 9 (85, .iconst 1, 1) rfl) (by decide) ?_
        refine mx_goto (pc := 86) 199 (mx_dd dd_X12_runsPlain_1 10 (86, .goto 113, 3) rfl) rfl ?_
        refine mx_istore (pc := 199) (mx_dd dd_X12_runsPlain_2 29 (199, .istore 5, 2) rfl) (by decide) (lv' := [(5, _), (3, _), (0, _), (1, _), (2, _)]) rfl ?_
        refine mx_iload (pc := 201) 0 (mx_dd dd_X12_runsPlain_2 30 (201, .iload 5, 2) rfl) rfl ?_
        refine mx_iconst (pc := 203) (v := (-1 : Int32)) (mx_dd dd_X12_runsPlain_2 31 (203, .iconst (-1), 1) rfl) (by decide) ?_
        refine mx_icmp_ne (pc := 204) 262 (mx_dd dd_X12_runsPlain_2 32 (204, .if_icmp .ne 58, 3) rfl) rfl (fun c204 => ?_) (fun c204 => ?_)
        · have P := P.1 c204
          refine mx_sel [2, 3, 0] rfl ?_
          exact P
        · have P := P.2 c204
          refine mx_lload_n (pc := 207) 1 (mx_dd dd_X12_runsPlain_2 33 (207, .lload_n 3, 1) rfl) rfl rfl ?_
          refine mx_aload_n (pc := 208) 2 (mx_dd dd_X12_runsPlain_2 34 (208, .aload_n 0, 1) rfl) rfl rfl ?_
          refine mx_getL (pc := 209) mx_fl_X12_116 g7 rfl (mx_dd dd_X12_runsPlain_2 35 (209, .getfield 116, 3) rfl) ?_
          refine mx_lcmp (pc := 212) (mx_dd dd_X12_runsPlain_2 36 (212, .lcmp, 1) rfl) ?_
          refine mx_if_ne (pc := 213) 224 (mx_dd dd_X12_runsPlain_2 37 (213, .ifCond .ne 11, 3) rfl) rfl (fun c213 => ?_) (fun c213 => ?_)
          · have P := P.1 c213
            refine mx_lload_n (pc := 224) 1 (mx_dd dd_X12_runsPlain_3 2 (224, .lload_n 3, 1) rfl) rfl rfl ?_
            refine mx_aload_n (pc := 225) 2 (mx_dd dd_X12_runsPlain_3 3 (225, .aload_n 0, 1) rfl) rfl rfl ?_
            refine mx_getL (pc := 226) mx_fl_X12_122 g7 rfl (mx_dd dd_X12_runsPlain_3 4 (226, .getfield 122, 3) rfl) ?_
            refine mx_lcmp (pc := 229) (mx_dd dd_X12_runsPlain_3 5 (229, .lcmp, 1) rfl) ?_
            refine mx_if_ne (pc := 230) 241 (mx_dd dd_X12_runsPlain_3 6 (230, .ifCond .ne 11, 3) rfl) rfl (fun c230 => ?_) (fun c230 => ?_)
            · have P := P.1 c230
              refine mx_aload_n (pc := 241) 2 (mx_dd dd_X12_runsPlain_3 11 (241, .aload_n 0, 1) rfl) rfl rfl ?_
              refine mx_iload_n (pc := 242) 3 (mx_dd dd_X12_runsPlain_3 12 (242, .iload_n 1, 1) rfl) rfl rfl ?_
              refine mx_lload_n (pc := 243) 1 (mx_dd dd_X12_runsPlain_3 13 (243, .lload_n 3, 1) rfl) rfl rfl ?_
              refine mx_aload_n (pc := 244) 2 (mx_dd dd_X12_runsPlain_3 14 (244, .aload_n 0, 1) rfl) rfl rfl ?_
              refine mx_getL (pc := 245) mx_fl_X12_131 g7 rfl (mx_dd dd_X12_runsPlain_3 15 (245, .getfield 131, 3) rfl) ?_
              refine mx_lcmp (pc := 248) (mx_dd dd_X12_runsPlain_3 16 (248, .lcmp, 1) rfl) ?_
              refine mx_if_ne (pc := 249) 256 (mx_dd dd_X12_runsPlain_3 17 (249, .ifCond .ne 7, 3) rfl) rfl (fun c249 => ?_) (fun c249 => ?_)
              · have P := P.1 c249
                refine mx_iconst (pc := 256) (v := (0 : Int32)) (mx_dd dd_X12_runsPlain_3 20 (256, .iconst 0, 1) rfl) (by decide) ?_
                refine mx_cVI (pc := 257) (Y := mY_X12_waits) (As := [.int _, .int _]) mx_ml_X12_611 mx_y_X12_waits rfl g7 (by decide) rfl (by decide) rfl (mx_dd dd_X12_runsPlain_3 21 (257, .invokevirtual 611, 3) rfl) g5 (by decide) P (fun v39 h40 P => ?_)
                refine mx_istore (pc := 260) (mx_dd dd_X12_runsPlain_3 22 (260, .istore 5, 2) rfl) (by decide) (lv' := [(5, _), (3, _), (0, _), (1, _), (2, _)]) rfl ?_
                refine mx_sel [2, 3, 0] rfl ?_
                exact P
              · have P := P.2 c249
                refine mx_iconst (pc := 252) (v := (1 : Int32)) (mx_dd dd_X12_runsPlain_3 18 (252, .iconst 1, 1) rfl) (by decide) ?_
                refine mx_goto (pc := 253) 257 (mx_dd dd_X12_runsPlain_3 19 (253, .goto 4, 3) rfl) rfl ?_
                refine mx_cVI (pc := 257) (Y := mY_X12_waits) (As := [.int _, .int _]) mx_ml_X12_611 mx_y_X12_waits rfl g7 (by decide) rfl (by decide) rfl (mx_dd dd_X12_runsPlain_3 21 (257, .invokevirtual 611, 3) rfl) g5 (by decide) P (fun v40 h41 P => ?_)
                refine mx_istore (pc := 260) (mx_dd dd_X12_runsPlain_3 22 (260, .istore 5, 2) rfl) (by decide) (lv' := [(5, _), (3, _), (0, _), (1, _), (2, _)]) rfl ?_
                refine mx_sel [2, 3, 0] rfl ?_
                exact P
            · have P := P.2 c230
              refine mx_aload_n (pc := 233) 2 (mx_dd dd_X12_runsPlain_3 7 (233, .aload_n 0, 1) rfl) rfl rfl ?_
              refine mx_iload_n (pc := 234) 3 (mx_dd dd_X12_runsPlain_3 8 (234, .iload_n 1, 1) rfl) rfl rfl ?_
              refine mx_cVI (pc := 235) (Y := mY_X12_raises) (As := [.int _]) mx_ml_X12_608 mx_y_X12_raises rfl g7 (by decide) rfl (by decide) rfl (mx_dd dd_X12_runsPlain_3 9 (235, .invokevirtual 608, 3) rfl) g5 (by decide) P (fun v41 h42 P => ?_)
              refine mx_goto (pc := 238) 260 (mx_dd dd_X12_runsPlain_3 10 (238, .goto 22, 3) rfl) rfl ?_
              refine mx_istore (pc := 260) (mx_dd dd_X12_runsPlain_3 22 (260, .istore 5, 2) rfl) (by decide) (lv' := [(5, _), (3, _), (0, _), (1, _), (2, _)]) rfl ?_
              refine mx_sel [2, 3, 0] rfl ?_
              exact P
          · have P := P.2 c213
            refine mx_aload_n (pc := 216) 2 (mx_dd dd_X12_runsPlain_2 38 (216, .aload_n 0, 1) rfl) rfl rfl ?_
            refine mx_iload_n (pc := 217) 3 (mx_dd dd_X12_runsPlain_2 39 (217, .iload_n 1, 1) rfl) rfl rfl ?_
            refine mx_cVI (pc := 218) (Y := mY_X12_exits) (As := [.int _]) mx_ml_X12_605 mx_y_X12_exits rfl g7 (by decide) rfl (by decide) rfl (mx_dd dd_X12_runsPlain_3 0 (218, .invokevirtual 605, 3) rfl) g5 (by decide) P (fun v42 h43 P => ?_)
            refine mx_goto (pc := 221) 260 (mx_dd dd_X12_runsPlain_3 1 (221, .goto 39, 3) rfl) rfl ?_
            refine mx_istore (pc := 260) (mx_dd dd_X12_runsPlain_3 22 (260, .istore 5, 2) rfl) (by decide) (lv' := [(5, _), (3, _), (0, _), (1, _), (2, _)]) rfl ?_
            refine mx_sel [2, 3, 0] rfl ?_
            exact P
    · have P := P.2 c69
      refine mx_iconst (pc := 72) (v := (0 : Int32)) (mx_dd dd_X12_runsPlain_1 2 (72, .iconst 0, 1) rfl) (by decide) ?_
      refine mx_goto (pc := 73) 199 (mx_dd dd_X12_runsPlain_1 3 (73, .goto 126, 3) rfl) rfl ?_
      refine mx_istore (pc := 199) (mx_dd dd_X12_runsPlain_2 29 (199, .istore 5, 2) rfl) (by decide) (lv' := [(5, _), (3, _), (0, _), (1, _), (2, _)]) rfl ?_
      refine mx_iload (pc := 201) 0 (mx_dd dd_X12_runsPlain_2 30 (201, .iload 5, 2) rfl) rfl ?_
      refine mx_iconst (pc := 203) (v := (-1 : Int32)) (mx_dd dd_X12_runsPlain_2 31 (203, .iconst (-1), 1) rfl) (by decide) ?_
      refine mx_icmp_ne (pc := 204) 262 (mx_dd dd_X12_runsPlain_2 32 (204, .if_icmp .ne 58, 3) rfl) rfl (fun c204 => ?_) (fun c204 => ?_)
      · have P := P.1 c204
        refine mx_sel [2, 3, 0] rfl ?_
        exact P
      · have P := P.2 c204
        refine mx_lload_n (pc := 207) 1 (mx_dd dd_X12_runsPlain_2 33 (207, .lload_n 3, 1) rfl) rfl rfl ?_
        refine mx_aload_n (pc := 208) 2 (mx_dd dd_X12_runsPlain_2 34 (208, .aload_n 0, 1) rfl) rfl rfl ?_
        refine mx_getL (pc := 209) mx_fl_X12_116 g7 rfl (mx_dd dd_X12_runsPlain_2 35 (209, .getfield 116, 3) rfl) ?_
        refine mx_lcmp (pc := 212) (mx_dd dd_X12_runsPlain_2 36 (212, .lcmp, 1) rfl) ?_
        refine mx_if_ne (pc := 213) 224 (mx_dd dd_X12_runsPlain_2 37 (213, .ifCond .ne 11, 3) rfl) rfl (fun c213 => ?_) (fun c213 => ?_)
        · have P := P.1 c213
          refine mx_lload_n (pc := 224) 1 (mx_dd dd_X12_runsPlain_3 2 (224, .lload_n 3, 1) rfl) rfl rfl ?_
          refine mx_aload_n (pc := 225) 2 (mx_dd dd_X12_runsPlain_3 3 (225, .aload_n 0, 1) rfl) rfl rfl ?_
          refine mx_getL (pc := 226) mx_fl_X12_122 g7 rfl (mx_dd dd_X12_runsPlain_3 4 (226, .getfield 122, 3) rfl) ?_
          refine mx_lcmp (pc := 229) (mx_dd dd_X12_runsPlain_3 5 (229, .lcmp, 1) rfl) ?_
          refine mx_if_ne (pc := 230) 241 (mx_dd dd_X12_runsPlain_3 6 (230, .ifCond .ne 11, 3) rfl) rfl (fun c230 => ?_) (fun c230 => ?_)
          · have P := P.1 c230
            refine mx_aload_n (pc := 241) 2 (mx_dd dd_X12_runsPlain_3 11 (241, .aload_n 0, 1) rfl) rfl rfl ?_
            refine mx_iload_n (pc := 242) 3 (mx_dd dd_X12_runsPlain_3 12 (242, .iload_n 1, 1) rfl) rfl rfl ?_
            refine mx_lload_n (pc := 243) 1 (mx_dd dd_X12_runsPlain_3 13 (243, .lload_n 3, 1) rfl) rfl rfl ?_
            refine mx_aload_n (pc := 244) 2 (mx_dd dd_X12_runsPlain_3 14 (244, .aload_n 0, 1) rfl) rfl rfl ?_
            refine mx_getL (pc := 245) mx_fl_X12_131 g7 rfl (mx_dd dd_X12_runsPlain_3 15 (245, .getfield 131, 3) rfl) ?_
            refine mx_lcmp (pc := 248) (mx_dd dd_X12_runsPlain_3 16 (248, .lcmp, 1) rfl) ?_
            refine mx_if_ne (pc := 249) 256 (mx_dd dd_X12_runsPlain_3 17 (249, .ifCond .ne 7, 3) rfl) rfl (fun c249 => ?_) (fun c249 => ?_)
            · have P := P.1 c249
              refine mx_iconst (pc := 256) (v := (0 : Int32)) (mx_dd dd_X12_runsPlain_3 20 (256, .iconst 0, 1) rfl) (by decide) ?_
              refine mx_cVI (pc := 257) (Y := mY_X12_waits) (As := [.int _, .int _]) mx_ml_X12_611 mx_y_X12_waits rfl g7 (by decide) rfl (by decide) rfl (mx_dd dd_X12_runsPlain_3 21 (257, .invokevirtual 611, 3) rfl) g5 (by decide) P (fun v43 h44 P => ?_)
              refine mx_istore (pc := 260) (mx_dd dd_X12_runsPlain_3 22 (260, .istore 5, 2) rfl) (by decide) (lv' := [(5, _), (3, _), (0, _), (1, _), (2, _)]) rfl ?_
              refine mx_sel [2, 3, 0] rfl ?_
              exact P
            · have P := P.2 c249
              refine mx_iconst (pc := 252) (v := (1 : Int32)) (mx_dd dd_X12_runsPlain_3 18 (252, .iconst 1, 1) rfl) (by decide) ?_
              refine mx_goto (pc := 253) 257 (mx_dd dd_X12_runsPlain_3 19 (253, .goto 4, 3) rfl) rfl ?_
              refine mx_cVI (pc := 257) (Y := mY_X12_waits) (As := [.int _, .int _]) mx_ml_X12_611 mx_y_X12_waits rfl g7 (by decide) rfl (by decide) rfl (mx_dd dd_X12_runsPlain_3 21 (257, .invokevirtual 611, 3) rfl) g5 (by decide) P (fun v44 h45 P => ?_)
              refine mx_istore (pc := 260) (mx_dd dd_X12_runsPlain_3 22 (260, .istore 5, 2) rfl) (by decide) (lv' := [(5, _), (3, _), (0, _), (1, _), (2, _)]) rfl ?_
              refine mx_sel [2, 3, 0] rfl ?_
              exact P
          · have P := P.2 c230
            refine mx_aload_n (pc := 233) 2 (mx_dd dd_X12_runsPlain_3 7 (233, .aload_n 0, 1) rfl) rfl rfl ?_
            refine mx_iload_n (pc := 234) 3 (mx_dd dd_X12_runsPlain_3 8 (234, .iload_n 1, 1) rfl) rfl rfl ?_
            refine mx_cVI (pc := 235) (Y := mY_X12_raises) (As := [.int _]) mx_ml_X12_608 mx_y_X12_raises rfl g7 (by decide) rfl (by decide) rfl (mx_dd dd_X12_runsPlain_3 9 (235, .invokevirtual 608, 3) rfl) g5 (by decide) P (fun v45 h46 P => ?_)
            refine mx_goto (pc := 238) 260 (mx_dd dd_X12_runsPlain_3 10 (238, .goto 22, 3) rfl) rfl ?_
            refine mx_istore (pc := 260) (mx_dd dd_X12_runsPlain_3 22 (260, .istore 5, 2) rfl) (by decide) (lv' := [(5, _), (3, _), (0, _), (1, _), (2, _)]) rfl ?_
            refine mx_sel [2, 3, 0] rfl ?_
            exact P
        · have P := P.2 c213
          refine mx_aload_n (pc := 216) 2 (mx_dd dd_X12_runsPlain_2 38 (216, .aload_n 0, 1) rfl) rfl rfl ?_
          refine mx_iload_n (pc := 217) 3 (mx_dd dd_X12_runsPlain_2 39 (217, .iload_n 1, 1) rfl) rfl rfl ?_
          refine mx_cVI (pc := 218) (Y := mY_X12_exits) (As := [.int _]) mx_ml_X12_605 mx_y_X12_exits rfl g7 (by decide) rfl (by decide) rfl (mx_dd dd_X12_runsPlain_3 0 (218, .invokevirtual 605, 3) rfl) g5 (by decide) P (fun v46 h47 P => ?_)
          refine mx_goto (pc := 221) 260 (mx_dd dd_X12_runsPlain_3 1 (221, .goto 39, 3) rfl) rfl ?_
          refine mx_istore (pc := 260) (mx_dd dd_X12_runsPlain_3 22 (260, .istore 5, 2) rfl) (by decide) (lv' := [(5, _), (3, _), (0, _), (1, _), (2, _)]) rfl ?_
          refine mx_sel [2, 3, 0] rfl ?_
          exact P
  · have P := P.2 c12
    refine mx_aload_n (pc := 15) 1 (mx_dd dd_X12_runsPlain_0 9 (15, .aload_n 0, 1) rfl) rfl rfl ?_
    refine mx_iload_n (pc := 16) 2 (mx_dd dd_X12_runsPlain_0 10 (16, .iload_n 1, 1) rfl) rfl rfl ?_
    refine mx_lload_n (pc := 17) 0 (mx_dd dd_X12_runsPlain_0 11 (17, .lload_n 3, 1) rfl) rfl rfl ?_
    obtain ⟨g13, P⟩ := P
    refine mx_cVI (pc := 18) (Y := mY_X12_functionOf) (As := [.int _, .long _]) mx_ml_X12_534 mx_y_X12_functionOf rfl g13 (by decide) rfl (by decide) rfl (mx_dd dd_X12_runsPlain_0 12 (18, .invokevirtual 534, 3) rfl) g5 (by decide) P (fun v47 h48 P => ?_)
    refine mx_istore (pc := 21) (mx_dd dd_X12_runsPlain_0 13 (21, .istore 5, 2) rfl) (by decide) (lv' := [(5, _), (3, _), (0, _), (1, _), (2, _)]) rfl ?_
    refine mx_iload (pc := 23) 0 (mx_dd dd_X12_runsPlain_0 14 (23, .iload 5, 2) rfl) rfl ?_
    refine mx_iconst (pc := 25) (v := (-1 : Int32)) (mx_dd dd_X12_runsPlain_0 15 (25, .iconst (-1), 1) rfl) (by decide) ?_
    refine mx_icmp_ne (pc := 26) 41 (mx_dd dd_X12_runsPlain_0 16 (26, .if_icmp .ne 15, 3) rfl) rfl (fun c26 => ?_) (fun c26 => ?_)
    · have P := P.1 c26
      refine mx_aload_n (pc := 41) 2 (mx_dd dd_X12_runsPlain_0 23 (41, .aload_n 0, 1) rfl) rfl rfl ?_
      refine mx_iload_n (pc := 42) 3 (mx_dd dd_X12_runsPlain_0 24 (42, .iload_n 1, 1) rfl) rfl rfl ?_
      refine mx_aload_n (pc := 43) 2 (mx_dd dd_X12_runsPlain_0 25 (43, .aload_n 0, 1) rfl) rfl rfl ?_
      refine mx_iload_n (pc := 44) 3 (mx_dd dd_X12_runsPlain_0 26 (44, .iload_n 1, 1) rfl) rfl rfl ?_
      refine mx_bipush (pc := 45) (v := (22 : Int32)) (mx_dd dd_X12_runsPlain_0 27 (45, .bipush 22, 2) rfl) (by decide) ?_
      refine mx_iload (pc := 47) 0 (mx_dd dd_X12_runsPlain_0 28 (47, .iload 5, 2) rfl) rfl ?_
      refine mx_iadd (pc := 49) (mx_dd dd_X12_runsPlain_0 29 (49, .iadd, 1) rfl) ?_
      obtain ⟨g14, P⟩ := P
      refine mx_cVI (pc := 50) (Y := mY_X12_of) (As := [.int _, .int _]) mx_ml_X12_416 mx_y_X12_of rfl g14 (by decide) rfl (by simp [Value.category]) rfl (mx_dd dd_X12_runsPlain_0 30 (50, .invokevirtual 416, 3) rfl) g5 (by decide) P (fun v48 h49 P => ?_)
      obtain ⟨g15, P⟩ := P
      refine mx_cVV (pc := 53) (Y := mY_X12_calls) (As := [.int _, .int _]) mx_ml_X12_537 mx_y_X12_calls rfl g15 (by decide) rfl (by decide) rfl (mx_dd dd_X12_runsPlain_0 31 (53, .invokevirtual 537, 3) rfl) g5 (by decide) P (fun h50 P => ?_)
      exact mx_return (pc := 56) (mx_dd dd_X12_runsPlain_0 32 (56, .return_, 1) rfl) rfl P
    · have P := P.2 c26
      refine mx_aload_n (pc := 29) 2 (mx_dd dd_X12_runsPlain_0 17 (29, .aload_n 0, 1) rfl) rfl rfl ?_
      refine mx_iload_n (pc := 30) 3 (mx_dd dd_X12_runsPlain_0 18 (30, .iload_n 1, 1) rfl) rfl rfl ?_
      refine mx_bipush (pc := 31) (v := (33 : Int32)) (mx_dd dd_X12_runsPlain_0 19 (31, .bipush 33, 2) rfl) (by decide) ?_
      refine mx_bipush (pc := 33) (v := (127 : Int32)) (mx_dd dd_X12_runsPlain_0 20 (33, .bipush 127, 2) rfl) (by decide) ?_
      obtain ⟨g16, P⟩ := P
      refine mx_cVV (pc := 35) (Y := mY_X12_sets) (As := [.int _, .int _, .int _]) mx_ml_X12_419 mx_y_X12_sets rfl g16 (by decide) rfl (by decide) rfl (mx_dd dd_X12_runsPlain_0 21 (35, .invokevirtual 419, 3) rfl) g5 (by decide) P (fun h51 P => ?_)
      refine mx_goto (pc := 38) 56 (mx_dd dd_X12_runsPlain_0 22 (38, .goto 18, 3) rfl) rfl ?_
      exact mx_return (pc := 56) (mx_dd dd_X12_runsPlain_0 32 (56, .return_, 1) rfl) rfl P
theorem b_X12_runsPlain_262 {d : Nat} {h : mxH} {Q : mxRes → mxH → Prop} (x0 : Nat) (x1 : Int32) (x5 : Int32)
    (P : 1 ≤ d ∧ hpK h x0 = 12 ∧ mx_SM mY_X12_isHalted (d - 1) [.ref x0, .int x1] h (mx_KI (fun v1 h1 => ((¬ v1 = 0 → Q (.inl none) h1) ∧ (v1 = 0 → hpK h1 x0 = 12 ∧ mx_SM mY_X12_sets (d - 1) [.ref x0, .int x1, .int (33 : Int32), .int x5] h1 (mx_KV (fun h2 => Q (.inl none) h2) (mx_XX mY_X12_runsPlain Q))))) (mx_XX mY_X12_runsPlain Q))) : mx_SX mY_X12_runsPlain d 262 [(0, .ref x0), (1, .int x1), (5, .int x5)] [] h Q := by
  refine mx_aload_n (pc := 262) 0 (mx_dd dd_X12_runsPlain_3 23 (262, .aload_n 0, 1) rfl) rfl rfl ?_
  refine mx_iload_n (pc := 263) 1 (mx_dd dd_X12_runsPlain_3 24 (263, .iload_n 1, 1) rfl) rfl rfl ?_
  obtain ⟨g1, P⟩ := P
  obtain ⟨g2, P⟩ := P
  refine mx_cVI (pc := 264) (Y := mY_X12_isHalted) (As := [.int _]) mx_ml_X12_468 mx_y_X12_isHalted rfl g2 (by decide) rfl (by decide) rfl (mx_dd dd_X12_runsPlain_3 25 (264, .invokevirtual 468, 3) rfl) g1 (by decide) P (fun v1 h1 P => ?_)
  refine mx_if_ne (pc := 267) 279 (mx_dd dd_X12_runsPlain_3 26 (267, .ifCond .ne 12, 3) rfl) rfl (fun c267 => ?_) (fun c267 => ?_)
  · have P := P.1 c267
    exact mx_return (pc := 279) (mx_dd dd_X12_runsPlain_3 32 (279, .return_, 1) rfl) rfl P
  · have P := P.2 c267
    refine mx_aload_n (pc := 270) 0 (mx_dd dd_X12_runsPlain_3 27 (270, .aload_n 0, 1) rfl) rfl rfl ?_
    refine mx_iload_n (pc := 271) 1 (mx_dd dd_X12_runsPlain_3 28 (271, .iload_n 1, 1) rfl) rfl rfl ?_
    refine mx_bipush (pc := 272) (v := (33 : Int32)) (mx_dd dd_X12_runsPlain_3 29 (272, .bipush 33, 2) rfl) (by decide) ?_
    refine mx_iload (pc := 274) 2 (mx_dd dd_X12_runsPlain_3 30 (274, .iload 5, 2) rfl) rfl ?_
    obtain ⟨g3, P⟩ := P
    refine mx_cVV (pc := 276) (Y := mY_X12_sets) (As := [.int _, .int _, .int _]) mx_ml_X12_419 mx_y_X12_sets rfl g3 (by decide) rfl (by decide) rfl (mx_dd dd_X12_runsPlain_3 31 (276, .invokevirtual 419, 3) rfl) g1 (by decide) P (fun h2 P => ?_)
    exact mx_return (pc := 279) (mx_dd dd_X12_runsPlain_3 32 (279, .return_, 1) rfl) rfl P
theorem b_X12_echoes {d : Nat} {h : mxH} {Q : mxRes → mxH → Prop} (x0 : Nat) (x1 : Int32)
    (P : mx_SX mY_X12_echoes d 4 [(0, .ref x0), (1, .int x1), (2, .int (0 : Int32)), (3, .int (0 : Int32))] [] h Q) : mx_SM mY_X12_echoes d [.ref x0, .int x1] h Q := by
  refine mx_SM_of (by decide) (Nat.le_of_ble_eq_true rfl) ?_
  show mx_SX mY_X12_echoes d 0 [(0, .ref x0), (1, .int x1)] [] h Q
  refine mx_iconst (pc := 0) (v := (0 : Int32)) (mx_dd dd_X12_echoes 0 (0, .iconst 0, 1) rfl) (by decide) ?_
  refine mx_istore_n (pc := 1) (mx_dd dd_X12_echoes 1 (1, .istore_n 2, 1) rfl) rfl (by decide) (lv' := [(2, _), (0, _), (1, _)]) rfl ?_
  refine mx_iconst (pc := 2) (v := (0 : Int32)) (mx_dd dd_X12_echoes 2 (2, .iconst 0, 1) rfl) (by decide) ?_
  refine mx_istore_n (pc := 3) (mx_dd dd_X12_echoes 3 (3, .istore_n 3, 1) rfl) rfl (by decide) (lv' := [(3, _), (2, _), (0, _), (1, _)]) rfl ?_
  refine mx_sel [2, 3, 1, 0] rfl ?_
  exact P
theorem b_X12_echoes_4 {d : Nat} {h : mxH} {Q : mxRes → mxH → Prop} (x0 : Nat) (x1 : Int32) (x2 : Int32) (x3 : Int32)
    (P : hpK h x0 = 12 ∧ (((hpI h x0 77) ≤ x3 → ∃ b1 : Nat, hpR h x0 79 = some b1 ∧ 1 ≤ d ∧ mx_SM mY_X12_lineOf (d - 1) [.ref x0, .ref b1, .int (0 : Int32), .int x2] h (mx_KI (fun v1 h1 => hpK h1 x0 = 12 ∧ mx_SM mY_X12_writes (d - 1) [.ref x0, .int x1, .int (1 : Int32), .int v1] h1 (mx_KI (fun v2 h2 => ((v2 = 0 → Q (.inl (some (.int (1 : Int32)))) h2) ∧ (¬ v2 = 0 → Q (.inl (some (.int (0 : Int32)))) h2))) (mx_XX mY_X12_echoes Q))) (mx_XX mY_X12_echoes Q))) ∧ (¬ (hpI h x0 77) ≤ x3 → ((x3 ≤ 0 → mx_SX mY_X12_echoes d 24 [(0, .ref x0), (1, .int x1), (2, .int x2), (3, .int x3)] [] h Q) ∧ (¬ x3 ≤ 0 → 1 ≤ d ∧ mx_SM mY_X12_adds (d - 1) [.ref x0, .int x2, .int (32 : Int32)] h (mx_KI (fun v3 h3 => mx_SX mY_X12_echoes d 24 [(0, .ref x0), (1, .int x1), (2, .int v3), (3, .int x3)] [] h3 Q) (mx_XX mY_X12_echoes Q))))))) : mx_SX mY_X12_echoes d 4 [(0, .ref x0), (1, .int x1), (2, .int x2), (3, .int x3)] [] h Q := by
  refine mx_iload_n (pc := 4) 3 (mx_dd dd_X12_echoes 4 (4, .iload_n 3, 1) rfl) rfl rfl ?_
  refine mx_aload_n (pc := 5) 0 (mx_dd dd_X12_echoes 5 (5, .aload_n 0, 1) rfl) rfl rfl ?_
  obtain ⟨g1, P⟩ := P
  refine mx_getI (pc := 6) mx_fl_X12_562 g1 rfl (mx_dd dd_X12_echoes 6 (6, .getfield 562, 3) rfl) ?_
  refine mx_icmp_ge (pc := 9) 70 (mx_dd dd_X12_echoes 7 (9, .if_icmp .ge 61, 3) rfl) rfl (fun c9 => ?_) (fun c9 => ?_)
  · have P := P.1 c9
    refine mx_aload_n (pc := 70) 0 (mx_dd dd_X12_echoes 40 (70, .aload_n 0, 1) rfl) rfl rfl ?_
    refine mx_iload_n (pc := 71) 1 (mx_dd dd_X12_echoes 41 (71, .iload_n 1, 1) rfl) rfl rfl ?_
    refine mx_iconst (pc := 72) (v := (1 : Int32)) (mx_dd dd_X12_echoes 42 (72, .iconst 1, 1) rfl) (by decide) ?_
    refine mx_aload_n (pc := 73) 0 (mx_dd dd_X12_echoes 43 (73, .aload_n 0, 1) rfl) rfl rfl ?_
    refine mx_aload_n (pc := 74) 0 (mx_dd dd_X12_echoes 44 (74, .aload_n 0, 1) rfl) rfl rfl ?_
    obtain ⟨b1, g2, P⟩ := P
    refine mx_getR (pc := 75) mx_fl_X12_618 g1 rfl g2 (mx_dd dd_X12_echoes 45 (75, .getfield 618, 3) rfl) ?_
    refine mx_iconst (pc := 78) (v := (0 : Int32)) (mx_dd dd_X12_echoes 46 (78, .iconst 0, 1) rfl) (by decide) ?_
    refine mx_iload_n (pc := 79) 2 (mx_dd dd_X12_echoes 47 (79, .iload_n 2, 1) rfl) rfl rfl ?_
    obtain ⟨g3, P⟩ := P
    refine mx_cVI (pc := 80) (Y := mY_X12_lineOf) (As := [.ref _, .int _, .int _]) mx_ml_X12_578 mx_y_X12_lineOf rfl g1 (by decide) rfl (by simp [Value.category]) rfl (mx_dd dd_X12_echoes 48 (80, .invokevirtual 578, 3) rfl) g3 (by decide) P (fun v1 h1 P => ?_)
    obtain ⟨g4, P⟩ := P
    refine mx_cVI (pc := 83) (Y := mY_X12_writes) (As := [.int _, .int _, .int _]) mx_ml_X12_621 mx_y_X12_writes rfl g4 (by decide) rfl (by decide) rfl (mx_dd dd_X12_echoes 49 (83, .invokevirtual 621, 3) rfl) g3 (by decide) P (fun v2 h2 P => ?_)
    refine mx_if_eq (pc := 86) 93 (mx_dd dd_X12_echoes 50 (86, .ifCond .eq 7, 3) rfl) rfl (fun c86 => ?_) (fun c86 => ?_)
    · have P := P.1 c86
      refine mx_iconst (pc := 93) (v := (1 : Int32)) (mx_dd dd_X12_echoes 53 (93, .iconst 1, 1) rfl) (by decide) ?_
      exact mx_ireturn (pc := 94) (mx_dd dd_X12_echoes 54 (94, .ireturn, 1) rfl) rfl rfl P
    · have P := P.2 c86
      refine mx_iconst (pc := 89) (v := (0 : Int32)) (mx_dd dd_X12_echoes 51 (89, .iconst 0, 1) rfl) (by decide) ?_
      refine mx_goto (pc := 90) 94 (mx_dd dd_X12_echoes 52 (90, .goto 4, 3) rfl) rfl ?_
      exact mx_ireturn (pc := 94) (mx_dd dd_X12_echoes 54 (94, .ireturn, 1) rfl) rfl rfl P
  · have P := P.2 c9
    refine mx_iload_n (pc := 12) 3 (mx_dd dd_X12_echoes 8 (12, .iload_n 3, 1) rfl) rfl rfl ?_
    refine mx_if_le (pc := 13) 24 (mx_dd dd_X12_echoes 9 (13, .ifCond .le 11, 3) rfl) rfl (fun c13 => ?_) (fun c13 => ?_)
    · have P := P.1 c13
      exact P
    · have P := P.2 c13
      refine mx_aload_n (pc := 16) 0 (mx_dd dd_X12_echoes 10 (16, .aload_n 0, 1) rfl) rfl rfl ?_
      refine mx_iload_n (pc := 17) 2 (mx_dd dd_X12_echoes 11 (17, .iload_n 2, 1) rfl) rfl rfl ?_
      refine mx_bipush (pc := 18) (v := (32 : Int32)) (mx_dd dd_X12_echoes 12 (18, .bipush 32, 2) rfl) (by decide) ?_
      obtain ⟨g5, P⟩ := P
      refine mx_cVI (pc := 20) (Y := mY_X12_adds) (As := [.int _, .int _]) mx_ml_X12_615 mx_y_X12_adds rfl g1 (by decide) rfl (by decide) rfl (mx_dd dd_X12_echoes 13 (20, .invokevirtual 615, 3) rfl) g5 (by decide) P (fun v3 h3 P => ?_)
      refine mx_istore_n (pc := 23) (mx_dd dd_X12_echoes 14 (23, .istore_n 2, 1) rfl) rfl (by decide) (lv' := [(2, _), (0, _), (1, _), (3, _)]) rfl ?_
      refine mx_sel [1, 2, 0, 3] rfl ?_
      exact P
theorem b_X12_echoes_24 {d : Nat} {h : mxH} {Q : mxRes → mxH → Prop} (x0 : Nat) (x1 : Int32) (x2 : Int32) (x3 : Int32)
    (P : mx_SX mY_X12_echoes d 27 [(0, .ref x0), (1, .int x1), (2, .int x2), (3, .int x3), (4, .int (0 : Int32))] [] h Q) : mx_SX mY_X12_echoes d 24 [(0, .ref x0), (1, .int x1), (2, .int x2), (3, .int x3)] [] h Q := by
  refine mx_iconst (pc := 24) (v := (0 : Int32)) (mx_dd dd_X12_echoes 15 (24, .iconst 0, 1) rfl) (by decide) ?_
  refine mx_istore (pc := 25) (mx_dd dd_X12_echoes 16 (25, .istore 4, 2) rfl) (by decide) (lv' := [(4, _), (0, _), (1, _), (2, _), (3, _)]) rfl ?_
  refine mx_sel [1, 2, 3, 4, 0] rfl ?_
  exact P
theorem b_X12_echoes_27 {d : Nat} {h : mxH} {Q : mxRes → mxH → Prop} (x0 : Nat) (x1 : Int32) (x2 : Int32) (x3 : Int32) (x4 : Int32)
    (P : hpK h x0 = 12 ∧ ∃ b1 : Nat, hpR h x0 76 = some b1 ∧ hpK h b1 = 14 ∧ vp_in x3 (hpZ h b1) ∧ (((hpI h b1 x3.toNatClampNeg) ≤ x4 → mx_SX mY_X12_echoes d 4 [(0, .ref x0), (1, .int x1), (2, .int x2), (3, .int (x3 + (1 : Int32)))] [] h Q) ∧ (¬ (hpI h b1 x3.toNatClampNeg) ≤ x4 → ∃ b2 : Nat, hpR h x0 74 = some b2 ∧ ∃ b3 : Nat, hpR h x0 75 = some b3 ∧ hpK h b3 = 14 ∧ vp_in x3 (hpZ h b3) ∧ hpK h b2 = 13 ∧ vp_in ((hpI h b3 x3.toNatClampNeg) + x4) (hpZ h b2) ∧ 1 ≤ d ∧ mx_SM mY_X12_adds (d - 1) [.ref x0, .int x2, .int (hpI h b2 ((hpI h b3 x3.toNatClampNeg) + x4).toNatClampNeg)] h (mx_KI (fun v1 h1 => mx_SX mY_X12_echoes d 27 [(0, .ref x0), (1, .int x1), (2, .int v1), (3, .int x3), (4, .int (x4 + (1 : Int32)))] [] h1 Q) (mx_XX mY_X12_echoes Q))))) : mx_SX mY_X12_echoes d 27 [(0, .ref x0), (1, .int x1), (2, .int x2), (3, .int x3), (4, .int x4)] [] h Q := by
  refine mx_iload (pc := 27) 4 (mx_dd dd_X12_echoes 17 (27, .iload 4, 2) rfl) rfl ?_
  refine mx_aload_n (pc := 29) 0 (mx_dd dd_X12_echoes 18 (29, .aload_n 0, 1) rfl) rfl rfl ?_
  obtain ⟨g1, P⟩ := P
  obtain ⟨b1, g2, P⟩ := P
  refine mx_getR (pc := 30) mx_fl_X12_565 g1 rfl g2 (mx_dd dd_X12_echoes 19 (30, .getfield 565, 3) rfl) ?_
  refine mx_iload_n (pc := 33) 3 (mx_dd dd_X12_echoes 20 (33, .iload_n 3, 1) rfl) rfl rfl ?_
  obtain ⟨g3, P⟩ := P
  obtain ⟨g4, P⟩ := P
  refine mx_iald (pc := 34) g3 g4 (mx_dd dd_X12_echoes 21 (34, .iaload, 1) rfl) ?_
  refine mx_icmp_ge (pc := 35) 64 (mx_dd dd_X12_echoes 22 (35, .if_icmp .ge 29, 3) rfl) rfl (fun c35 => ?_) (fun c35 => ?_)
  · have P := P.1 c35
    refine mx_iinc (pc := 64) 3 (mx_dd dd_X12_echoes 38 (64, .iinc 3 1, 3) rfl) rfl (mx_kadd (by decide : Int32.ofInt 1 = (1 : Int32))) (by decide) (lv' := [(3, _), (0, _), (1, _), (2, _), (4, _)]) rfl ?_
    refine mx_goto (pc := 67) 4 (mx_dd dd_X12_echoes 39 (67, .goto (-63), 3) rfl) rfl ?_
    refine mx_sel [1, 2, 3, 0] rfl ?_
    exact P
  · have P := P.2 c35
    refine mx_aload_n (pc := 38) 0 (mx_dd dd_X12_echoes 23 (38, .aload_n 0, 1) rfl) rfl rfl ?_
    refine mx_iload_n (pc := 39) 2 (mx_dd dd_X12_echoes 24 (39, .iload_n 2, 1) rfl) rfl rfl ?_
    refine mx_aload_n (pc := 40) 0 (mx_dd dd_X12_echoes 25 (40, .aload_n 0, 1) rfl) rfl rfl ?_
    obtain ⟨b2, g5, P⟩ := P
    refine mx_getR (pc := 41) mx_fl_X12_550 g1 rfl g5 (mx_dd dd_X12_echoes 26 (41, .getfield 550, 3) rfl) ?_
    refine mx_aload_n (pc := 44) 0 (mx_dd dd_X12_echoes 27 (44, .aload_n 0, 1) rfl) rfl rfl ?_
    obtain ⟨b3, g6, P⟩ := P
    refine mx_getR (pc := 45) mx_fl_X12_559 g1 rfl g6 (mx_dd dd_X12_echoes 28 (45, .getfield 559, 3) rfl) ?_
    refine mx_iload_n (pc := 48) 3 (mx_dd dd_X12_echoes 29 (48, .iload_n 3, 1) rfl) rfl rfl ?_
    obtain ⟨g7, P⟩ := P
    obtain ⟨g8, P⟩ := P
    refine mx_iald (pc := 49) g7 g8 (mx_dd dd_X12_echoes 30 (49, .iaload, 1) rfl) ?_
    refine mx_iload (pc := 50) 4 (mx_dd dd_X12_echoes 31 (50, .iload 4, 2) rfl) rfl ?_
    refine mx_iadd (pc := 52) (mx_dd dd_X12_echoes 32 (52, .iadd, 1) rfl) ?_
    obtain ⟨g9, P⟩ := P
    obtain ⟨g10, P⟩ := P
    refine mx_bald (pc := 53) g9 g10 (mx_dd dd_X12_echoes 33 (53, .baload, 1) rfl) ?_
    obtain ⟨g11, P⟩ := P
    refine mx_cVI (pc := 54) (Y := mY_X12_adds) (As := [.int _, .int _]) mx_ml_X12_615 mx_y_X12_adds rfl g1 (by decide) rfl (by decide) rfl (mx_dd dd_X12_echoes 34 (54, .invokevirtual 615, 3) rfl) g11 (by decide) P (fun v1 h1 P => ?_)
    refine mx_istore_n (pc := 57) (mx_dd dd_X12_echoes 35 (57, .istore_n 2, 1) rfl) rfl (by decide) (lv' := [(2, _), (0, _), (1, _), (3, _), (4, _)]) rfl ?_
    refine mx_iinc (pc := 58) 4 (mx_dd dd_X12_echoes 36 (58, .iinc 4 1, 3) rfl) rfl (mx_kadd (by decide : Int32.ofInt 1 = (1 : Int32))) (by decide) (lv' := [(4, _), (2, _), (0, _), (1, _), (3, _)]) rfl ?_
    refine mx_goto (pc := 61) 27 (mx_dd dd_X12_echoes 37 (61, .goto (-34), 3) rfl) rfl ?_
    refine mx_sel [2, 3, 1, 4, 0] rfl ?_
    exact P
theorem b_X12_adds {d : Nat} {h : mxH} {Q : mxRes → mxH → Prop} (x0 : Nat) (x1 : Int32) (x2 : Int32)
    (P : ((¬ x1 = (80 : Int32) → hpK h x0 = 12 ∧ ∃ b1 : Nat, hpR h x0 79 = some b1 ∧ hpK h b1 = 13 ∧ vp_in x1 (hpZ h b1) ∧ ∀ h1 : mxH, h1 = hsI h b1 x1.toNatClampNeg (x2.toInt8.toInt32).toInt8.toInt32 → Q (.inl (some (.int (x1 + (1 : Int32))))) h1) ∧ (x1 = (80 : Int32) → Q (.inl (some (.int x1))) h))) : mx_SM mY_X12_adds d [.ref x0, .int x1, .int x2] h Q := by
  refine mx_SM_of (by decide) (Nat.le_of_ble_eq_true rfl) ?_
  show mx_SX mY_X12_adds d 0 [(0, .ref x0), (1, .int x1), (2, .int x2)] [] h Q
  refine mx_iload_n (pc := 0) 1 (mx_dd dd_X12_adds 0 (0, .iload_n 1, 1) rfl) rfl rfl ?_
  refine mx_bipush (pc := 1) (v := (80 : Int32)) (mx_dd dd_X12_adds 1 (1, .bipush 80, 2) rfl) (by decide) ?_
  refine mx_icmp_ne (pc := 3) 8 (mx_dd dd_X12_adds 2 (3, .if_icmp .ne 5, 3) rfl) rfl (fun c3 => ?_) (fun c3 => ?_)
  · have P := P.1 c3
    refine mx_aload_n (pc := 8) 0 (mx_dd dd_X12_adds 5 (8, .aload_n 0, 1) rfl) rfl rfl ?_
    obtain ⟨g1, P⟩ := P
    obtain ⟨b1, g2, P⟩ := P
    refine mx_getR (pc := 9) mx_fl_X12_618 g1 rfl g2 (mx_dd dd_X12_adds 6 (9, .getfield 618, 3) rfl) ?_
    refine mx_iload_n (pc := 12) 1 (mx_dd dd_X12_adds 7 (12, .iload_n 1, 1) rfl) rfl rfl ?_
    refine mx_iload_n (pc := 13) 2 (mx_dd dd_X12_adds 8 (13, .iload_n 2, 1) rfl) rfl rfl ?_
    refine mx_i2b (pc := 14) (mx_dd dd_X12_adds 9 (14, .i2b, 1) rfl) ?_
    obtain ⟨g3, P⟩ := P
    obtain ⟨g4, P⟩ := P
    refine mx_bast (pc := 15) g3 g4 (mx_dd dd_X12_adds 10 (15, .bastore, 1) rfl) ?_
    have P := P _ rfl
    refine mx_iload_n (pc := 16) 1 (mx_dd dd_X12_adds 11 (16, .iload_n 1, 1) rfl) rfl rfl ?_
    refine mx_iconst (pc := 17) (v := (1 : Int32)) (mx_dd dd_X12_adds 12 (17, .iconst 1, 1) rfl) (by decide) ?_
    refine mx_iadd (pc := 18) (mx_dd dd_X12_adds 13 (18, .iadd, 1) rfl) ?_
    exact mx_ireturn (pc := 19) (mx_dd dd_X12_adds 14 (19, .ireturn, 1) rfl) rfl rfl P
  · have P := P.2 c3
    refine mx_iload_n (pc := 6) 1 (mx_dd dd_X12_adds 3 (6, .iload_n 1, 1) rfl) rfl rfl ?_
    exact mx_ireturn (pc := 7) (mx_dd dd_X12_adds 4 (7, .ireturn, 1) rfl) rfl rfl P
theorem b_X12_readsInto {d : Nat} {h : mxH} {Q : mxRes → mxH → Prop} (x0 : Nat) (x1 : Int32)
    (P : hpK h x0 = 12 ∧ ((¬ (hpI h x0 77) = (1 : Int32) → ((¬ (lg_cmp (0 : Int64) (0 : Int64)) = 0 → 1 ≤ d ∧ mx_SM mY_X12_reads (d - 1) [.ref x0, .int x1, .int (0 : Int32)] h (mx_KI (fun v1 h1 => hpK h1 x0 = 12 ∧ mx_SM mY_X12_isHalted (d - 1) [.ref x0, .int x1] h1 (mx_KI (fun v2 h2 => ((¬ v2 = 0 → Q (.inl (some (.int (1 : Int32)))) h2) ∧ (v2 = 0 → ((¬ v1 = (-2 : Int32) → ((¬ v1 = (-1 : Int32) → hpK h2 x0 = 12 ∧ mx_SM mY_X12_assigns (d - 1) [.ref x0, .int x1, .long (0 : Int64), .int v1] h2 (mx_KI (fun v3 h3 => ((v1 = (-1 : Int32) → mx_SX mY_X12_readsInto d 82 [] [] h3 Q) ∧ (¬ v1 = (-1 : Int32) → ((¬ v3 = 0 → Q (.inl (some (.int (0 : Int32)))) h3) ∧ (v3 = 0 → mx_SX mY_X12_readsInto d 82 [] [] h3 Q))))) (mx_XX mY_X12_readsInto Q))) ∧ (v1 = (-1 : Int32) → hpK h2 x0 = 12 ∧ mx_SM mY_X12_assigns (d - 1) [.ref x0, .int x1, .long (0 : Int64), .int (0 : Int32)] h2 (mx_KI (fun v4 h4 => ((v1 = (-1 : Int32) → mx_SX mY_X12_readsInto d 82 [] [] h4 Q) ∧ (¬ v1 = (-1 : Int32) → ((¬ v4 = 0 → Q (.inl (some (.int (0 : Int32)))) h4) ∧ (v4 = 0 → mx_SX mY_X12_readsInto d 82 [] [] h4 Q))))) (mx_XX mY_X12_readsInto Q))))) ∧ (v1 = (-2 : Int32) → Q (.inl (some (.int (1 : Int32)))) h2))))) (mx_XX mY_X12_readsInto Q))) (mx_XX mY_X12_readsInto Q))) ∧ ((lg_cmp (0 : Int64) (0 : Int64)) = 0 → Q (.inl (some (.int (2 : Int32)))) h))) ∧ ((hpI h x0 77) = (1 : Int32) → 1 ≤ d ∧ mx_SM mY_X12_nameAt (d - 1) [.ref x0, .int (0 : Int32)] h (mx_KL (fun v5 h5 => ((¬ (lg_cmp v5 (0 : Int64)) = 0 → hpK h5 x0 = 12 ∧ mx_SM mY_X12_reads (d - 1) [.ref x0, .int x1, .int (0 : Int32)] h5 (mx_KI (fun v6 h6 => hpK h6 x0 = 12 ∧ mx_SM mY_X12_isHalted (d - 1) [.ref x0, .int x1] h6 (mx_KI (fun v7 h7 => ((¬ v7 = 0 → Q (.inl (some (.int (1 : Int32)))) h7) ∧ (v7 = 0 → ((¬ v6 = (-2 : Int32) → ((¬ v6 = (-1 : Int32) → hpK h7 x0 = 12 ∧ mx_SM mY_X12_assigns (d - 1) [.ref x0, .int x1, .long v5, .int v6] h7 (mx_KI (fun v8 h8 => ((v6 = (-1 : Int32) → mx_SX mY_X12_readsInto d 82 [] [] h8 Q) ∧ (¬ v6 = (-1 : Int32) → ((¬ v8 = 0 → Q (.inl (some (.int (0 : Int32)))) h8) ∧ (v8 = 0 → mx_SX mY_X12_readsInto d 82 [] [] h8 Q))))) (mx_XX mY_X12_readsInto Q))) ∧ (v6 = (-1 : Int32) → hpK h7 x0 = 12 ∧ mx_SM mY_X12_assigns (d - 1) [.ref x0, .int x1, .long v5, .int (0 : Int32)] h7 (mx_KI (fun v9 h9 => ((v6 = (-1 : Int32) → mx_SX mY_X12_readsInto d 82 [] [] h9 Q) ∧ (¬ v6 = (-1 : Int32) → ((¬ v9 = 0 → Q (.inl (some (.int (0 : Int32)))) h9) ∧ (v9 = 0 → mx_SX mY_X12_readsInto d 82 [] [] h9 Q))))) (mx_XX mY_X12_readsInto Q))))) ∧ (v6 = (-2 : Int32) → Q (.inl (some (.int (1 : Int32)))) h7))))) (mx_XX mY_X12_readsInto Q))) (mx_XX mY_X12_readsInto Q))) ∧ ((lg_cmp v5 (0 : Int64)) = 0 → Q (.inl (some (.int (2 : Int32)))) h5))) (mx_XX mY_X12_readsInto Q))))) : mx_SM mY_X12_readsInto d [.ref x0, .int x1] h Q := by
  refine mx_SM_of (by decide) (Nat.le_of_ble_eq_true rfl) ?_
  show mx_SX mY_X12_readsInto d 0 [(0, .ref x0), (1, .int x1)] [] h Q
  refine mx_aload_n (pc := 0) 0 (mx_dd dd_X12_readsInto 0 (0, .aload_n 0, 1) rfl) rfl rfl ?_
  obtain ⟨g1, P⟩ := P
  refine mx_getI (pc := 1) mx_fl_X12_562 g1 rfl (mx_dd dd_X12_readsInto 1 (1, .getfield 562, 3) rfl) ?_
  refine mx_iconst (pc := 4) (v := (1 : Int32)) (mx_dd dd_X12_readsInto 2 (4, .iconst 1, 1) rfl) (by decide) ?_
  refine mx_icmp_ne (pc := 5) 16 (mx_dd dd_X12_readsInto 3 (5, .if_icmp .ne 11, 3) rfl) rfl (fun c5 => ?_) (fun c5 => ?_)
  · have P := P.1 c5
    refine mx_lconst (pc := 16) (v := (0 : Int64)) (mx_dd dd_X12_readsInto 8 (16, .lconst 0, 1) rfl) (by decide) ?_
    refine mx_lstore_n (pc := 17) (mx_dd dd_X12_readsInto 9 (17, .lstore_n 2, 1) rfl) rfl (by decide) (lv' := [(2, _), (0, _), (1, _)]) rfl ?_
    refine mx_lload_n (pc := 18) 0 (mx_dd dd_X12_readsInto 10 (18, .lload_n 2, 1) rfl) rfl rfl ?_
    refine mx_lconst (pc := 19) (v := (0 : Int64)) (mx_dd dd_X12_readsInto 11 (19, .lconst 0, 1) rfl) (by decide) ?_
    refine mx_lcmp (pc := 20) (mx_dd dd_X12_readsInto 12 (20, .lcmp, 1) rfl) ?_
    refine mx_if_ne (pc := 21) 26 (mx_dd dd_X12_readsInto 13 (21, .ifCond .ne 5, 3) rfl) rfl (fun c21 => ?_) (fun c21 => ?_)
    · have P := P.1 c21
      refine mx_aload_n (pc := 26) 1 (mx_dd dd_X12_readsInto 16 (26, .aload_n 0, 1) rfl) rfl rfl ?_
      refine mx_iload_n (pc := 27) 2 (mx_dd dd_X12_readsInto 17 (27, .iload_n 1, 1) rfl) rfl rfl ?_
      refine mx_iconst (pc := 28) (v := (0 : Int32)) (mx_dd dd_X12_readsInto 18 (28, .iconst 0, 1) rfl) (by decide) ?_
      obtain ⟨g2, P⟩ := P
      refine mx_cVI (pc := 29) (Y := mY_X12_reads) (As := [.int _, .int _]) mx_ml_X12_627 mx_y_X12_reads rfl g1 (by decide) rfl (by decide) rfl (mx_dd dd_X12_readsInto 19 (29, .invokevirtual 627, 3) rfl) g2 (by decide) P (fun v1 h1 P => ?_)
      refine mx_istore (pc := 32) (mx_dd dd_X12_readsInto 20 (32, .istore 4, 2) rfl) (by decide) (lv' := [(4, _), (2, _), (0, _), (1, _)]) rfl ?_
      refine mx_aload_n (pc := 34) 2 (mx_dd dd_X12_readsInto 21 (34, .aload_n 0, 1) rfl) rfl rfl ?_
      refine mx_iload_n (pc := 35) 3 (mx_dd dd_X12_readsInto 22 (35, .iload_n 1, 1) rfl) rfl rfl ?_
      obtain ⟨g3, P⟩ := P
      refine mx_cVI (pc := 36) (Y := mY_X12_isHalted) (As := [.int _]) mx_ml_X12_468 mx_y_X12_isHalted rfl g3 (by decide) rfl (by decide) rfl (mx_dd dd_X12_readsInto 23 (36, .invokevirtual 468, 3) rfl) g2 (by decide) P (fun v2 h2 P => ?_)
      refine mx_if_ne (pc := 39) 49 (mx_dd dd_X12_readsInto 24 (39, .ifCond .ne 10, 3) rfl) rfl (fun c39 => ?_) (fun c39 => ?_)
      · have P := P.1 c39
        refine mx_iconst (pc := 49) (v := (1 : Int32)) (mx_dd dd_X12_readsInto 28 (49, .iconst 1, 1) rfl) (by decide) ?_
        exact mx_ireturn (pc := 50) (mx_dd dd_X12_readsInto 29 (50, .ireturn, 1) rfl) rfl rfl P
      · have P := P.2 c39
        refine mx_iload (pc := 42) 0 (mx_dd dd_X12_readsInto 25 (42, .iload 4, 2) rfl) rfl ?_
        refine mx_bipush (pc := 44) (v := (-2 : Int32)) (mx_dd dd_X12_readsInto 26 (44, .bipush (-2), 2) rfl) (by decide) ?_
        refine mx_icmp_ne (pc := 46) 51 (mx_dd dd_X12_readsInto 27 (46, .if_icmp .ne 5, 3) rfl) rfl (fun c46 => ?_) (fun c46 => ?_)
        · have P := P.1 c46
          refine mx_aload_n (pc := 51) 2 (mx_dd dd_X12_readsInto 30 (51, .aload_n 0, 1) rfl) rfl rfl ?_
          refine mx_iload_n (pc := 52) 3 (mx_dd dd_X12_readsInto 31 (52, .iload_n 1, 1) rfl) rfl rfl ?_
          refine mx_lload_n (pc := 53) 1 (mx_dd dd_X12_readsInto 32 (53, .lload_n 2, 1) rfl) rfl rfl ?_
          refine mx_iload (pc := 54) 0 (mx_dd dd_X12_readsInto 33 (54, .iload 4, 2) rfl) rfl ?_
          refine mx_iconst (pc := 56) (v := (-1 : Int32)) (mx_dd dd_X12_readsInto 34 (56, .iconst (-1), 1) rfl) (by decide) ?_
          refine mx_icmp_ne (pc := 57) 64 (mx_dd dd_X12_readsInto 35 (57, .if_icmp .ne 7, 3) rfl) rfl (fun c57 => ?_) (fun c57 => ?_)
          · have P := P.1 c57
            refine mx_iload (pc := 64) 0 (mx_dd dd_X12_readsInto 38 (64, .iload 4, 2) rfl) rfl ?_
            obtain ⟨g4, P⟩ := P
            refine mx_cVI (pc := 66) (Y := mY_X12_assigns) (As := [.int _, .long _, .int _]) mx_ml_X12_582 mx_y_X12_assigns rfl g4 (by decide) rfl (by decide) rfl (mx_dd dd_X12_readsInto 39 (66, .invokevirtual 582, 3) rfl) g2 (by decide) P (fun v3 h3 P => ?_)
            refine mx_istore (pc := 69) (mx_dd dd_X12_readsInto 40 (69, .istore 5, 2) rfl) (by decide) (lv' := [(5, _), (4, _), (2, _), (0, _), (1, _)]) rfl ?_
            refine mx_iload (pc := 71) 1 (mx_dd dd_X12_readsInto 41 (71, .iload 4, 2) rfl) rfl ?_
            refine mx_iconst (pc := 73) (v := (-1 : Int32)) (mx_dd dd_X12_readsInto 42 (73, .iconst (-1), 1) rfl) (by decide) ?_
            refine mx_icmp_eq (pc := 74) 82 (mx_dd dd_X12_readsInto 43 (74, .if_icmp .eq 8, 3) rfl) rfl (fun c74 => ?_) (fun c74 => ?_)
            · have P := P.1 c74
              refine mx_sel [] rfl ?_
              exact P
            · have P := P.2 c74
              refine mx_iload (pc := 77) 0 (mx_dd dd_X12_readsInto 44 (77, .iload 5, 2) rfl) rfl ?_
              refine mx_if_ne (pc := 79) 86 (mx_dd dd_X12_readsInto 45 (79, .ifCond .ne 7, 3) rfl) rfl (fun c79 => ?_) (fun c79 => ?_)
              · have P := P.1 c79
                refine mx_iconst (pc := 86) (v := (0 : Int32)) (mx_dd dd_X12_readsInto 48 (86, .iconst 0, 1) rfl) (by decide) ?_
                exact mx_ireturn (pc := 87) (mx_dd dd_X12_readsInto 49 (87, .ireturn, 1) rfl) rfl rfl P
              · have P := P.2 c79
                refine mx_sel [] rfl ?_
                exact P
          · have P := P.2 c57
            refine mx_iconst (pc := 60) (v := (0 : Int32)) (mx_dd dd_X12_readsInto 36 (60, .iconst 0, 1) rfl) (by decide) ?_
            refine mx_goto (pc := 61) 66 (mx_dd dd_X12_readsInto 37 (61, .goto 5, 3) rfl) rfl ?_
            obtain ⟨g5, P⟩ := P
            refine mx_cVI (pc := 66) (Y := mY_X12_assigns) (As := [.int _, .long _, .int _]) mx_ml_X12_582 mx_y_X12_assigns rfl g5 (by decide) rfl (by decide) rfl (mx_dd dd_X12_readsInto 39 (66, .invokevirtual 582, 3) rfl) g2 (by decide) P (fun v4 h4 P => ?_)
            refine mx_istore (pc := 69) (mx_dd dd_X12_readsInto 40 (69, .istore 5, 2) rfl) (by decide) (lv' := [(5, _), (4, _), (2, _), (0, _), (1, _)]) rfl ?_
            refine mx_iload (pc := 71) 1 (mx_dd dd_X12_readsInto 41 (71, .iload 4, 2) rfl) rfl ?_
            refine mx_iconst (pc := 73) (v := (-1 : Int32)) (mx_dd dd_X12_readsInto 42 (73, .iconst (-1), 1) rfl) (by decide) ?_
            refine mx_icmp_eq (pc := 74) 82 (mx_dd dd_X12_readsInto 43 (74, .if_icmp .eq 8, 3) rfl) rfl (fun c74 => ?_) (fun c74 => ?_)
            · have P := P.1 c74
              refine mx_sel [] rfl ?_
              exact P
            · have P := P.2 c74
              refine mx_iload (pc := 77) 0 (mx_dd dd_X12_readsInto 44 (77, .iload 5, 2) rfl) rfl ?_
              refine mx_if_ne (pc := 79) 86 (mx_dd dd_X12_readsInto 45 (79, .ifCond .ne 7, 3) rfl) rfl (fun c79 => ?_) (fun c79 => ?_)
              · have P := P.1 c79
                refine mx_iconst (pc := 86) (v := (0 : Int32)) (mx_dd dd_X12_readsInto 48 (86, .iconst 0, 1) rfl) (by decide) ?_
                exact mx_ireturn (pc := 87) (mx_dd dd_X12_readsInto 49 (87, .ireturn, 1) rfl) rfl rfl P
              · have P := P.2 c79
                refine mx_sel [] rfl ?_
                exact P
        · have P := P.2 c46
          refine mx_iconst (pc := 49) (v := (1 : Int32)) (mx_dd dd_X12_readsInto 28 (49, .iconst 1, 1) rfl) (by decide) ?_
          exact mx_ireturn (pc := 50) (mx_dd dd_X12_readsInto 29 (50, .ireturn, 1) rfl) rfl rfl P
    · have P := P.2 c21
      refine mx_iconst (pc := 24) (v := (2 : Int32)) (mx_dd dd_X12_readsInto 14 (24, .iconst 2, 1) rfl) (by decide) ?_
      exact mx_ireturn (pc := 25) (mx_dd dd_X12_readsInto 15 (25, .ireturn, 1) rfl) rfl rfl P
  · have P := P.2 c5
    refine mx_aload_n (pc := 8) 0 (mx_dd dd_X12_readsInto 4 (8, .aload_n 0, 1) rfl) rfl rfl ?_
    refine mx_iconst (pc := 9) (v := (0 : Int32)) (mx_dd dd_X12_readsInto 5 (9, .iconst 0, 1) rfl) (by decide) ?_
    obtain ⟨g6, P⟩ := P
    refine mx_cVL (pc := 10) (Y := mY_X12_nameAt) (As := [.int _]) mx_ml_X12_624 mx_y_X12_nameAt rfl g1 (by decide) rfl (by decide) rfl (mx_dd dd_X12_readsInto 6 (10, .invokevirtual 624, 3) rfl) g6 (by decide) P (fun v5 h5 P => ?_)
    refine mx_goto (pc := 13) 17 (mx_dd dd_X12_readsInto 7 (13, .goto 4, 3) rfl) rfl ?_
    refine mx_lstore_n (pc := 17) (mx_dd dd_X12_readsInto 9 (17, .lstore_n 2, 1) rfl) rfl (by decide) (lv' := [(2, _), (0, _), (1, _)]) rfl ?_
    refine mx_lload_n (pc := 18) 0 (mx_dd dd_X12_readsInto 10 (18, .lload_n 2, 1) rfl) rfl rfl ?_
    refine mx_lconst (pc := 19) (v := (0 : Int64)) (mx_dd dd_X12_readsInto 11 (19, .lconst 0, 1) rfl) (by decide) ?_
    refine mx_lcmp (pc := 20) (mx_dd dd_X12_readsInto 12 (20, .lcmp, 1) rfl) ?_
    refine mx_if_ne (pc := 21) 26 (mx_dd dd_X12_readsInto 13 (21, .ifCond .ne 5, 3) rfl) rfl (fun c21 => ?_) (fun c21 => ?_)
    · have P := P.1 c21
      refine mx_aload_n (pc := 26) 1 (mx_dd dd_X12_readsInto 16 (26, .aload_n 0, 1) rfl) rfl rfl ?_
      refine mx_iload_n (pc := 27) 2 (mx_dd dd_X12_readsInto 17 (27, .iload_n 1, 1) rfl) rfl rfl ?_
      refine mx_iconst (pc := 28) (v := (0 : Int32)) (mx_dd dd_X12_readsInto 18 (28, .iconst 0, 1) rfl) (by decide) ?_
      obtain ⟨g7, P⟩ := P
      refine mx_cVI (pc := 29) (Y := mY_X12_reads) (As := [.int _, .int _]) mx_ml_X12_627 mx_y_X12_reads rfl g7 (by decide) rfl (by decide) rfl (mx_dd dd_X12_readsInto 19 (29, .invokevirtual 627, 3) rfl) g6 (by decide) P (fun v6 h6 P => ?_)
      refine mx_istore (pc := 32) (mx_dd dd_X12_readsInto 20 (32, .istore 4, 2) rfl) (by decide) (lv' := [(4, _), (2, _), (0, _), (1, _)]) rfl ?_
      refine mx_aload_n (pc := 34) 2 (mx_dd dd_X12_readsInto 21 (34, .aload_n 0, 1) rfl) rfl rfl ?_
      refine mx_iload_n (pc := 35) 3 (mx_dd dd_X12_readsInto 22 (35, .iload_n 1, 1) rfl) rfl rfl ?_
      obtain ⟨g8, P⟩ := P
      refine mx_cVI (pc := 36) (Y := mY_X12_isHalted) (As := [.int _]) mx_ml_X12_468 mx_y_X12_isHalted rfl g8 (by decide) rfl (by decide) rfl (mx_dd dd_X12_readsInto 23 (36, .invokevirtual 468, 3) rfl) g6 (by decide) P (fun v7 h7 P => ?_)
      refine mx_if_ne (pc := 39) 49 (mx_dd dd_X12_readsInto 24 (39, .ifCond .ne 10, 3) rfl) rfl (fun c39 => ?_) (fun c39 => ?_)
      · have P := P.1 c39
        refine mx_iconst (pc := 49) (v := (1 : Int32)) (mx_dd dd_X12_readsInto 28 (49, .iconst 1, 1) rfl) (by decide) ?_
        exact mx_ireturn (pc := 50) (mx_dd dd_X12_readsInto 29 (50, .ireturn, 1) rfl) rfl rfl P
      · have P := P.2 c39
        refine mx_iload (pc := 42) 0 (mx_dd dd_X12_readsInto 25 (42, .iload 4, 2) rfl) rfl ?_
        refine mx_bipush (pc := 44) (v := (-2 : Int32)) (mx_dd dd_X12_readsInto 26 (44, .bipush (-2), 2) rfl) (by decide) ?_
        refine mx_icmp_ne (pc := 46) 51 (mx_dd dd_X12_readsInto 27 (46, .if_icmp .ne 5, 3) rfl) rfl (fun c46 => ?_) (fun c46 => ?_)
        · have P := P.1 c46
          refine mx_aload_n (pc := 51) 2 (mx_dd dd_X12_readsInto 30 (51, .aload_n 0, 1) rfl) rfl rfl ?_
          refine mx_iload_n (pc := 52) 3 (mx_dd dd_X12_readsInto 31 (52, .iload_n 1, 1) rfl) rfl rfl ?_
          refine mx_lload_n (pc := 53) 1 (mx_dd dd_X12_readsInto 32 (53, .lload_n 2, 1) rfl) rfl rfl ?_
          refine mx_iload (pc := 54) 0 (mx_dd dd_X12_readsInto 33 (54, .iload 4, 2) rfl) rfl ?_
          refine mx_iconst (pc := 56) (v := (-1 : Int32)) (mx_dd dd_X12_readsInto 34 (56, .iconst (-1), 1) rfl) (by decide) ?_
          refine mx_icmp_ne (pc := 57) 64 (mx_dd dd_X12_readsInto 35 (57, .if_icmp .ne 7, 3) rfl) rfl (fun c57 => ?_) (fun c57 => ?_)
          · have P := P.1 c57
            refine mx_iload (pc := 64) 0 (mx_dd dd_X12_readsInto 38 (64, .iload 4, 2) rfl) rfl ?_
            obtain ⟨g9, P⟩ := P
            refine mx_cVI (pc := 66) (Y := mY_X12_assigns) (As := [.int _, .long _, .int _]) mx_ml_X12_582 mx_y_X12_assigns rfl g9 (by decide) rfl (by decide) rfl (mx_dd dd_X12_readsInto 39 (66, .invokevirtual 582, 3) rfl) g6 (by decide) P (fun v8 h8 P => ?_)
            refine mx_istore (pc := 69) (mx_dd dd_X12_readsInto 40 (69, .istore 5, 2) rfl) (by decide) (lv' := [(5, _), (4, _), (2, _), (0, _), (1, _)]) rfl ?_
            refine mx_iload (pc := 71) 1 (mx_dd dd_X12_readsInto 41 (71, .iload 4, 2) rfl) rfl ?_
            refine mx_iconst (pc := 73) (v := (-1 : Int32)) (mx_dd dd_X12_readsInto 42 (73, .iconst (-1), 1) rfl) (by decide) ?_
            refine mx_icmp_eq (pc := 74) 82 (mx_dd dd_X12_readsInto 43 (74, .if_icmp .eq 8, 3) rfl) rfl (fun c74 => ?_) (fun c74 => ?_)
            · have P := P.1 c74
              refine mx_sel [] rfl ?_
              exact P
            · have P := P.2 c74
              refine mx_iload (pc := 77) 0 (mx_dd dd_X12_readsInto 44 (77, .iload 5, 2) rfl) rfl ?_
              refine mx_if_ne (pc := 79) 86 (mx_dd dd_X12_readsInto 45 (79, .ifCond .ne 7, 3) rfl) rfl (fun c79 => ?_) (fun c79 => ?_)
              · have P := P.1 c79
                refine mx_iconst (pc := 86) (v := (0 : Int32)) (mx_dd dd_X12_readsInto 48 (86, .iconst 0, 1) rfl) (by decide) ?_
                exact mx_ireturn (pc := 87) (mx_dd dd_X12_readsInto 49 (87, .ireturn, 1) rfl) rfl rfl P
              · have P := P.2 c79
                refine mx_sel [] rfl ?_
                exact P
          · have P := P.2 c57
            refine mx_iconst (pc := 60) (v := (0 : Int32)) (mx_dd dd_X12_readsInto 36 (60, .iconst 0, 1) rfl) (by decide) ?_
            refine mx_goto (pc := 61) 66 (mx_dd dd_X12_readsInto 37 (61, .goto 5, 3) rfl) rfl ?_
            obtain ⟨g10, P⟩ := P
            refine mx_cVI (pc := 66) (Y := mY_X12_assigns) (As := [.int _, .long _, .int _]) mx_ml_X12_582 mx_y_X12_assigns rfl g10 (by decide) rfl (by decide) rfl (mx_dd dd_X12_readsInto 39 (66, .invokevirtual 582, 3) rfl) g6 (by decide) P (fun v9 h9 P => ?_)
            refine mx_istore (pc := 69) (mx_dd dd_X12_readsInto 40 (69, .istore 5, 2) rfl) (by decide) (lv' := [(5, _), (4, _), (2, _), (0, _), (1, _)]) rfl ?_
            refine mx_iload (pc := 71) 1 (mx_dd dd_X12_readsInto 41 (71, .iload 4, 2) rfl) rfl ?_
            refine mx_iconst (pc := 73) (v := (-1 : Int32)) (mx_dd dd_X12_readsInto 42 (73, .iconst (-1), 1) rfl) (by decide) ?_
            refine mx_icmp_eq (pc := 74) 82 (mx_dd dd_X12_readsInto 43 (74, .if_icmp .eq 8, 3) rfl) rfl (fun c74 => ?_) (fun c74 => ?_)
            · have P := P.1 c74
              refine mx_sel [] rfl ?_
              exact P
            · have P := P.2 c74
              refine mx_iload (pc := 77) 0 (mx_dd dd_X12_readsInto 44 (77, .iload 5, 2) rfl) rfl ?_
              refine mx_if_ne (pc := 79) 86 (mx_dd dd_X12_readsInto 45 (79, .ifCond .ne 7, 3) rfl) rfl (fun c79 => ?_) (fun c79 => ?_)
              · have P := P.1 c79
                refine mx_iconst (pc := 86) (v := (0 : Int32)) (mx_dd dd_X12_readsInto 48 (86, .iconst 0, 1) rfl) (by decide) ?_
                exact mx_ireturn (pc := 87) (mx_dd dd_X12_readsInto 49 (87, .ireturn, 1) rfl) rfl rfl P
              · have P := P.2 c79
                refine mx_sel [] rfl ?_
                exact P
        · have P := P.2 c46
          refine mx_iconst (pc := 49) (v := (1 : Int32)) (mx_dd dd_X12_readsInto 28 (49, .iconst 1, 1) rfl) (by decide) ?_
          exact mx_ireturn (pc := 50) (mx_dd dd_X12_readsInto 29 (50, .ireturn, 1) rfl) rfl rfl P
    · have P := P.2 c21
      refine mx_iconst (pc := 24) (v := (2 : Int32)) (mx_dd dd_X12_readsInto 14 (24, .iconst 2, 1) rfl) (by decide) ?_
      exact mx_ireturn (pc := 25) (mx_dd dd_X12_readsInto 15 (25, .ireturn, 1) rfl) rfl rfl P
theorem b_X12_readsInto_82 {d : Nat} {h : mxH} {Q : mxRes → mxH → Prop} 
    (P : Q (.inl (some (.int (1 : Int32)))) h) : mx_SX mY_X12_readsInto d 82 [] [] h Q := by
  refine mx_iconst (pc := 82) (v := (1 : Int32)) (mx_dd dd_X12_readsInto 46 (82, .iconst 1, 1) rfl) (by decide) ?_
  refine mx_goto (pc := 83) 87 (mx_dd dd_X12_readsInto 47 (83, .goto 4, 3) rfl) rfl ?_
  exact mx_ireturn (pc := 87) (mx_dd dd_X12_readsInto 49 (87, .ireturn, 1) rfl) rfl rfl P
theorem b_X12_copies {d : Nat} {h : mxH} {Q : mxRes → mxH → Prop} (x0 : Nat) (x1 : Int32)
    (P : hpK h x0 = 12 ∧ (((hpI h x0 77) ≤ 0 → 1 ≤ d ∧ mx_SM mY_X12_reads (d - 1) [.ref x0, .int x1, .int (0 : Int32)] h (mx_KI (fun v1 h1 => mx_SX mY_X12_copies d 16 [(0, .ref x0), (1, .int x1), (2, .int v1)] [] h1 Q) (mx_XX mY_X12_copies Q))) ∧ (¬ (hpI h x0 77) ≤ 0 → Q (.inl (some (.int (2 : Int32)))) h))) : mx_SM mY_X12_copies d [.ref x0, .int x1] h Q := by
  refine mx_SM_of (by decide) (Nat.le_of_ble_eq_true rfl) ?_
  show mx_SX mY_X12_copies d 0 [(0, .ref x0), (1, .int x1)] [] h Q
  refine mx_aload_n (pc := 0) 0 (mx_dd dd_X12_copies 0 (0, .aload_n 0, 1) rfl) rfl rfl ?_
  obtain ⟨g1, P⟩ := P
  refine mx_getI (pc := 1) mx_fl_X12_562 g1 rfl (mx_dd dd_X12_copies 1 (1, .getfield 562, 3) rfl) ?_
  refine mx_if_le (pc := 4) 9 (mx_dd dd_X12_copies 2 (4, .ifCond .le 5, 3) rfl) rfl (fun c4 => ?_) (fun c4 => ?_)
  · have P := P.1 c4
    refine mx_aload_n (pc := 9) 0 (mx_dd dd_X12_copies 5 (9, .aload_n 0, 1) rfl) rfl rfl ?_
    refine mx_iload_n (pc := 10) 1 (mx_dd dd_X12_copies 6 (10, .iload_n 1, 1) rfl) rfl rfl ?_
    refine mx_iconst (pc := 11) (v := (0 : Int32)) (mx_dd dd_X12_copies 7 (11, .iconst 0, 1) rfl) (by decide) ?_
    obtain ⟨g2, P⟩ := P
    refine mx_cVI (pc := 12) (Y := mY_X12_reads) (As := [.int _, .int _]) mx_ml_X12_627 mx_y_X12_reads rfl g1 (by decide) rfl (by decide) rfl (mx_dd dd_X12_copies 8 (12, .invokevirtual 627, 3) rfl) g2 (by decide) P (fun v1 h1 P => ?_)
    refine mx_istore_n (pc := 15) (mx_dd dd_X12_copies 9 (15, .istore_n 2, 1) rfl) rfl (by decide) (lv' := [(2, _), (0, _), (1, _)]) rfl ?_
    refine mx_sel [1, 2, 0] rfl ?_
    exact P
  · have P := P.2 c4
    refine mx_iconst (pc := 7) (v := (2 : Int32)) (mx_dd dd_X12_copies 3 (7, .iconst 2, 1) rfl) (by decide) ?_
    exact mx_ireturn (pc := 8) (mx_dd dd_X12_copies 4 (8, .ireturn, 1) rfl) rfl rfl P
theorem b_X12_copies_16 {d : Nat} {h : mxH} {Q : mxRes → mxH → Prop} (x0 : Nat) (x1 : Int32) (x2 : Int32)
    (P : ((x2 < 0 → ((¬ x2 = (-1 : Int32) → Q (.inl (some (.int (1 : Int32)))) h) ∧ (x2 = (-1 : Int32) → Q (.inl (some (.int (0 : Int32)))) h))) ∧ (¬ x2 < 0 → 1 ≤ d ∧ hpK h x0 = 12 ∧ mx_SM mY_X12_writes (d - 1) [.ref x0, .int x1, .int (1 : Int32), .int x2] h (mx_KI (fun v1 h1 => ((¬ v1 = 0 → hpK h1 x0 = 12 ∧ mx_SM mY_X12_reads (d - 1) [.ref x0, .int x1, .int (0 : Int32)] h1 (mx_KI (fun v2 h2 => mx_SX mY_X12_copies d 16 [(0, .ref x0), (1, .int x1), (2, .int v2)] [] h2 Q) (mx_XX mY_X12_copies Q))) ∧ (v1 = 0 → Q (.inl (some (.int (1 : Int32)))) h1))) (mx_XX mY_X12_copies Q))))) : mx_SX mY_X12_copies d 16 [(0, .ref x0), (1, .int x1), (2, .int x2)] [] h Q := by
  refine mx_iload_n (pc := 16) 2 (mx_dd dd_X12_copies 10 (16, .iload_n 2, 1) rfl) rfl rfl ?_
  refine mx_if_lt (pc := 17) 42 (mx_dd dd_X12_copies 11 (17, .ifCond .lt 25, 3) rfl) rfl (fun c17 => ?_) (fun c17 => ?_)
  · have P := P.1 c17
    refine mx_iload_n (pc := 42) 2 (mx_dd dd_X12_copies 26 (42, .iload_n 2, 1) rfl) rfl rfl ?_
    refine mx_iconst (pc := 43) (v := (-1 : Int32)) (mx_dd dd_X12_copies 27 (43, .iconst (-1), 1) rfl) (by decide) ?_
    refine mx_icmp_ne (pc := 44) 51 (mx_dd dd_X12_copies 28 (44, .if_icmp .ne 7, 3) rfl) rfl (fun c44 => ?_) (fun c44 => ?_)
    · have P := P.1 c44
      refine mx_iconst (pc := 51) (v := (1 : Int32)) (mx_dd dd_X12_copies 31 (51, .iconst 1, 1) rfl) (by decide) ?_
      exact mx_ireturn (pc := 52) (mx_dd dd_X12_copies 32 (52, .ireturn, 1) rfl) rfl rfl P
    · have P := P.2 c44
      refine mx_iconst (pc := 47) (v := (0 : Int32)) (mx_dd dd_X12_copies 29 (47, .iconst 0, 1) rfl) (by decide) ?_
      refine mx_goto (pc := 48) 52 (mx_dd dd_X12_copies 30 (48, .goto 4, 3) rfl) rfl ?_
      exact mx_ireturn (pc := 52) (mx_dd dd_X12_copies 32 (52, .ireturn, 1) rfl) rfl rfl P
  · have P := P.2 c17
    refine mx_aload_n (pc := 20) 0 (mx_dd dd_X12_copies 12 (20, .aload_n 0, 1) rfl) rfl rfl ?_
    refine mx_iload_n (pc := 21) 1 (mx_dd dd_X12_copies 13 (21, .iload_n 1, 1) rfl) rfl rfl ?_
    refine mx_iconst (pc := 22) (v := (1 : Int32)) (mx_dd dd_X12_copies 14 (22, .iconst 1, 1) rfl) (by decide) ?_
    refine mx_iload_n (pc := 23) 2 (mx_dd dd_X12_copies 15 (23, .iload_n 2, 1) rfl) rfl rfl ?_
    obtain ⟨g1, P⟩ := P
    obtain ⟨g2, P⟩ := P
    refine mx_cVI (pc := 24) (Y := mY_X12_writes) (As := [.int _, .int _, .int _]) mx_ml_X12_621 mx_y_X12_writes rfl g2 (by decide) rfl (by decide) rfl (mx_dd dd_X12_copies 16 (24, .invokevirtual 621, 3) rfl) g1 (by decide) P (fun v1 h1 P => ?_)
    refine mx_if_ne (pc := 27) 32 (mx_dd dd_X12_copies 17 (27, .ifCond .ne 5, 3) rfl) rfl (fun c27 => ?_) (fun c27 => ?_)
    · have P := P.1 c27
      refine mx_aload_n (pc := 32) 0 (mx_dd dd_X12_copies 20 (32, .aload_n 0, 1) rfl) rfl rfl ?_
      refine mx_iload_n (pc := 33) 1 (mx_dd dd_X12_copies 21 (33, .iload_n 1, 1) rfl) rfl rfl ?_
      refine mx_iconst (pc := 34) (v := (0 : Int32)) (mx_dd dd_X12_copies 22 (34, .iconst 0, 1) rfl) (by decide) ?_
      obtain ⟨g3, P⟩ := P
      refine mx_cVI (pc := 35) (Y := mY_X12_reads) (As := [.int _, .int _]) mx_ml_X12_627 mx_y_X12_reads rfl g3 (by decide) rfl (by decide) rfl (mx_dd dd_X12_copies 23 (35, .invokevirtual 627, 3) rfl) g1 (by decide) P (fun v2 h2 P => ?_)
      refine mx_istore_n (pc := 38) (mx_dd dd_X12_copies 24 (38, .istore_n 2, 1) rfl) rfl (by decide) (lv' := [(2, _), (0, _), (1, _)]) rfl ?_
      refine mx_goto (pc := 39) 16 (mx_dd dd_X12_copies 25 (39, .goto (-23), 3) rfl) rfl ?_
      refine mx_sel [1, 2, 0] rfl ?_
      exact P
    · have P := P.2 c27
      refine mx_iconst (pc := 30) (v := (1 : Int32)) (mx_dd dd_X12_copies 18 (30, .iconst 1, 1) rfl) (by decide) ?_
      exact mx_ireturn (pc := 31) (mx_dd dd_X12_copies 19 (31, .ireturn, 1) rfl) rfl rfl P
theorem b_X12_exits {d : Nat} {h : mxH} {Q : mxRes → mxH → Prop} (x0 : Nat) (x1 : Int32)
    (P : hpK h x0 = 12 ∧ ((¬ (hpI h x0 77) = (1 : Int32) → (((1 : Int32) < (hpI h x0 77) → Q (.inl (some (.int (2 : Int32)))) h) ∧ (¬ (1 : Int32) < (hpI h x0 77) → ((¬ (hpI h x0 77) = (1 : Int32) → mx_SX mY_X12_exits d 41 [(0, .ref x0), (1, .int x1), (2, .int (-1 : Int32))] [] h Q) ∧ ((hpI h x0 77) = (1 : Int32) → ((¬ (-1 : Int32) = (-1 : Int32) → mx_SX mY_X12_exits d 41 [(0, .ref x0), (1, .int x1), (2, .int (-1 : Int32))] [] h Q) ∧ ((-1 : Int32) = (-1 : Int32) → Q (.inl (some (.int (2 : Int32)))) h))))))) ∧ ((hpI h x0 77) = (1 : Int32) → 1 ≤ d ∧ mx_SM mY_X12_numberAt (d - 1) [.ref x0, .int (0 : Int32)] h (mx_KI (fun v1 h1 => hpK h1 x0 = 12 ∧ (((1 : Int32) < (hpI h1 x0 77) → Q (.inl (some (.int (2 : Int32)))) h1) ∧ (¬ (1 : Int32) < (hpI h1 x0 77) → ((¬ (hpI h1 x0 77) = (1 : Int32) → mx_SX mY_X12_exits d 41 [(0, .ref x0), (1, .int x1), (2, .int v1)] [] h1 Q) ∧ ((hpI h1 x0 77) = (1 : Int32) → ((¬ v1 = (-1 : Int32) → mx_SX mY_X12_exits d 41 [(0, .ref x0), (1, .int x1), (2, .int v1)] [] h1 Q) ∧ (v1 = (-1 : Int32) → Q (.inl (some (.int (2 : Int32)))) h1))))))) (mx_XX mY_X12_exits Q))))) : mx_SM mY_X12_exits d [.ref x0, .int x1] h Q := by
  refine mx_SM_of (by decide) (Nat.le_of_ble_eq_true rfl) ?_
  show mx_SX mY_X12_exits d 0 [(0, .ref x0), (1, .int x1)] [] h Q
  refine mx_aload_n (pc := 0) 0 (mx_dd dd_X12_exits 0 (0, .aload_n 0, 1) rfl) rfl rfl ?_
  obtain ⟨g1, P⟩ := P
  refine mx_getI (pc := 1) mx_fl_X12_562 g1 rfl (mx_dd dd_X12_exits 1 (1, .getfield 562, 3) rfl) ?_
  refine mx_iconst (pc := 4) (v := (1 : Int32)) (mx_dd dd_X12_exits 2 (4, .iconst 1, 1) rfl) (by decide) ?_
  refine mx_icmp_ne (pc := 5) 16 (mx_dd dd_X12_exits 3 (5, .if_icmp .ne 11, 3) rfl) rfl (fun c5 => ?_) (fun c5 => ?_)
  · have P := P.1 c5
    refine mx_iconst (pc := 16) (v := (-1 : Int32)) (mx_dd dd_X12_exits 8 (16, .iconst (-1), 1) rfl) (by decide) ?_
    refine mx_istore_n (pc := 17) (mx_dd dd_X12_exits 9 (17, .istore_n 2, 1) rfl) rfl (by decide) (lv' := [(2, _), (0, _), (1, _)]) rfl ?_
    refine mx_aload_n (pc := 18) 1 (mx_dd dd_X12_exits 10 (18, .aload_n 0, 1) rfl) rfl rfl ?_
    refine mx_getI (pc := 19) mx_fl_X12_562 g1 rfl (mx_dd dd_X12_exits 11 (19, .getfield 562, 3) rfl) ?_
    refine mx_iconst (pc := 22) (v := (1 : Int32)) (mx_dd dd_X12_exits 12 (22, .iconst 1, 1) rfl) (by decide) ?_
    refine mx_icmp_gt (pc := 23) 39 (mx_dd dd_X12_exits 13 (23, .if_icmp .gt 16, 3) rfl) rfl (fun c23 => ?_) (fun c23 => ?_)
    · have P := P.1 c23
      refine mx_iconst (pc := 39) (v := (2 : Int32)) (mx_dd dd_X12_exits 21 (39, .iconst 2, 1) rfl) (by decide) ?_
      exact mx_ireturn (pc := 40) (mx_dd dd_X12_exits 22 (40, .ireturn, 1) rfl) rfl rfl P
    · have P := P.2 c23
      refine mx_aload_n (pc := 26) 1 (mx_dd dd_X12_exits 14 (26, .aload_n 0, 1) rfl) rfl rfl ?_
      refine mx_getI (pc := 27) mx_fl_X12_562 g1 rfl (mx_dd dd_X12_exits 15 (27, .getfield 562, 3) rfl) ?_
      refine mx_iconst (pc := 30) (v := (1 : Int32)) (mx_dd dd_X12_exits 16 (30, .iconst 1, 1) rfl) (by decide) ?_
      refine mx_icmp_ne (pc := 31) 41 (mx_dd dd_X12_exits 17 (31, .if_icmp .ne 10, 3) rfl) rfl (fun c31 => ?_) (fun c31 => ?_)
      · have P := P.1 c31
        refine mx_sel [1, 2, 0] rfl ?_
        exact P
      · have P := P.2 c31
        refine mx_iload_n (pc := 34) 0 (mx_dd dd_X12_exits 18 (34, .iload_n 2, 1) rfl) rfl rfl ?_
        refine mx_iconst (pc := 35) (v := (-1 : Int32)) (mx_dd dd_X12_exits 19 (35, .iconst (-1), 1) rfl) (by decide) ?_
        refine mx_icmp_ne (pc := 36) 41 (mx_dd dd_X12_exits 20 (36, .if_icmp .ne 5, 3) rfl) rfl (fun c36 => ?_) (fun c36 => ?_)
        · have P := P.1 c36
          refine mx_sel [1, 2, 0] rfl ?_
          exact P
        · have P := P.2 c36
          refine mx_iconst (pc := 39) (v := (2 : Int32)) (mx_dd dd_X12_exits 21 (39, .iconst 2, 1) rfl) (by decide) ?_
          exact mx_ireturn (pc := 40) (mx_dd dd_X12_exits 22 (40, .ireturn, 1) rfl) rfl rfl P
  · have P := P.2 c5
    refine mx_aload_n (pc := 8) 0 (mx_dd dd_X12_exits 4 (8, .aload_n 0, 1) rfl) rfl rfl ?_
    refine mx_iconst (pc := 9) (v := (0 : Int32)) (mx_dd dd_X12_exits 5 (9, .iconst 0, 1) rfl) (by decide) ?_
    obtain ⟨g2, P⟩ := P
    refine mx_cVI (pc := 10) (Y := mY_X12_numberAt) (As := [.int _]) mx_ml_X12_630 mx_y_X12_numberAt rfl g1 (by decide) rfl (by decide) rfl (mx_dd dd_X12_exits 6 (10, .invokevirtual 630, 3) rfl) g2 (by decide) P (fun v1 h1 P => ?_)
    refine mx_goto (pc := 13) 17 (mx_dd dd_X12_exits 7 (13, .goto 4, 3) rfl) rfl ?_
    refine mx_istore_n (pc := 17) (mx_dd dd_X12_exits 9 (17, .istore_n 2, 1) rfl) rfl (by decide) (lv' := [(2, _), (0, _), (1, _)]) rfl ?_
    refine mx_aload_n (pc := 18) 1 (mx_dd dd_X12_exits 10 (18, .aload_n 0, 1) rfl) rfl rfl ?_
    obtain ⟨g3, P⟩ := P
    refine mx_getI (pc := 19) mx_fl_X12_562 g3 rfl (mx_dd dd_X12_exits 11 (19, .getfield 562, 3) rfl) ?_
    refine mx_iconst (pc := 22) (v := (1 : Int32)) (mx_dd dd_X12_exits 12 (22, .iconst 1, 1) rfl) (by decide) ?_
    refine mx_icmp_gt (pc := 23) 39 (mx_dd dd_X12_exits 13 (23, .if_icmp .gt 16, 3) rfl) rfl (fun c23 => ?_) (fun c23 => ?_)
    · have P := P.1 c23
      refine mx_iconst (pc := 39) (v := (2 : Int32)) (mx_dd dd_X12_exits 21 (39, .iconst 2, 1) rfl) (by decide) ?_
      exact mx_ireturn (pc := 40) (mx_dd dd_X12_exits 22 (40, .ireturn, 1) rfl) rfl rfl P
    · have P := P.2 c23
      refine mx_aload_n (pc := 26) 1 (mx_dd dd_X12_exits 14 (26, .aload_n 0, 1) rfl) rfl rfl ?_
      refine mx_getI (pc := 27) mx_fl_X12_562 g3 rfl (mx_dd dd_X12_exits 15 (27, .getfield 562, 3) rfl) ?_
      refine mx_iconst (pc := 30) (v := (1 : Int32)) (mx_dd dd_X12_exits 16 (30, .iconst 1, 1) rfl) (by decide) ?_
      refine mx_icmp_ne (pc := 31) 41 (mx_dd dd_X12_exits 17 (31, .if_icmp .ne 10, 3) rfl) rfl (fun c31 => ?_) (fun c31 => ?_)
      · have P := P.1 c31
        refine mx_sel [1, 2, 0] rfl ?_
        exact P
      · have P := P.2 c31
        refine mx_iload_n (pc := 34) 0 (mx_dd dd_X12_exits 18 (34, .iload_n 2, 1) rfl) rfl rfl ?_
        refine mx_iconst (pc := 35) (v := (-1 : Int32)) (mx_dd dd_X12_exits 19 (35, .iconst (-1), 1) rfl) (by decide) ?_
        refine mx_icmp_ne (pc := 36) 41 (mx_dd dd_X12_exits 20 (36, .if_icmp .ne 5, 3) rfl) rfl (fun c36 => ?_) (fun c36 => ?_)
        · have P := P.1 c36
          refine mx_sel [1, 2, 0] rfl ?_
          exact P
        · have P := P.2 c36
          refine mx_iconst (pc := 39) (v := (2 : Int32)) (mx_dd dd_X12_exits 21 (39, .iconst 2, 1) rfl) (by decide) ?_
          exact mx_ireturn (pc := 40) (mx_dd dd_X12_exits 22 (40, .ireturn, 1) rfl) rfl rfl P
theorem b_X12_exits_41 {d : Nat} {h : mxH} {Q : mxRes → mxH → Prop} (x0 : Nat) (x1 : Int32) (x2 : Int32)
    (P : hpK h x0 = 12 ∧ ((¬ (hpI h x0 77) = 0 → 1 ≤ d ∧ mx_SM mY_X12_ends (d - 1) [.ref x0, .int x1, .int (x2 - x2 / (256 : Int32) * (256 : Int32))] h (mx_KV (fun h1 => Q (.inl (some (.int (0 : Int32)))) h1) (mx_XX mY_X12_exits Q))) ∧ ((hpI h x0 77) = 0 → 1 ≤ d ∧ mx_SM mY_X12_statusOf (d - 1) [.ref x0, .int x1] h (mx_KI (fun v1 h2 => hpK h2 x0 = 12 ∧ mx_SM mY_X12_ends (d - 1) [.ref x0, .int x1, .int v1] h2 (mx_KV (fun h3 => Q (.inl (some (.int (0 : Int32)))) h3) (mx_XX mY_X12_exits Q))) (mx_XX mY_X12_exits Q))))) : mx_SX mY_X12_exits d 41 [(0, .ref x0), (1, .int x1), (2, .int x2)] [] h Q := by
  refine mx_aload_n (pc := 41) 0 (mx_dd dd_X12_exits 23 (41, .aload_n 0, 1) rfl) rfl rfl ?_
  refine mx_iload_n (pc := 42) 1 (mx_dd dd_X12_exits 24 (42, .iload_n 1, 1) rfl) rfl rfl ?_
  refine mx_aload_n (pc := 43) 0 (mx_dd dd_X12_exits 25 (43, .aload_n 0, 1) rfl) rfl rfl ?_
  obtain ⟨g1, P⟩ := P
  refine mx_getI (pc := 44) mx_fl_X12_562 g1 rfl (mx_dd dd_X12_exits 26 (44, .getfield 562, 3) rfl) ?_
  refine mx_if_ne (pc := 47) 58 (mx_dd dd_X12_exits 27 (47, .ifCond .ne 11, 3) rfl) rfl (fun c47 => ?_) (fun c47 => ?_)
  · have P := P.1 c47
    refine mx_iload_n (pc := 58) 2 (mx_dd dd_X12_exits 32 (58, .iload_n 2, 1) rfl) rfl rfl ?_
    refine mx_sipush (pc := 59) (v := (256 : Int32)) (mx_dd dd_X12_exits 33 (59, .sipush 256, 3) rfl) (by decide) ?_
    refine mx_irem (pc := 62) (mx_dd dd_X12_exits 34 (62, .irem, 1) rfl) (by decide) ?_
    obtain ⟨g2, P⟩ := P
    refine mx_cVV (pc := 63) (Y := mY_X12_ends) (As := [.int _, .int _]) mx_ml_X12_449 mx_y_X12_ends rfl g1 (by decide) rfl (by decide) rfl (mx_dd dd_X12_exits 35 (63, .invokevirtual 449, 3) rfl) g2 (by decide) P (fun h1 P => ?_)
    refine mx_iconst (pc := 66) (v := (0 : Int32)) (mx_dd dd_X12_exits 36 (66, .iconst 0, 1) rfl) (by decide) ?_
    exact mx_ireturn (pc := 67) (mx_dd dd_X12_exits 37 (67, .ireturn, 1) rfl) rfl rfl P
  · have P := P.2 c47
    refine mx_aload_n (pc := 50) 0 (mx_dd dd_X12_exits 28 (50, .aload_n 0, 1) rfl) rfl rfl ?_
    refine mx_iload_n (pc := 51) 1 (mx_dd dd_X12_exits 29 (51, .iload_n 1, 1) rfl) rfl rfl ?_
    obtain ⟨g3, P⟩ := P
    refine mx_cVI (pc := 52) (Y := mY_X12_statusOf) (As := [.int _]) mx_ml_X12_477 mx_y_X12_statusOf rfl g1 (by decide) rfl (by simp [Value.category]) rfl (mx_dd dd_X12_exits 30 (52, .invokevirtual 477, 3) rfl) g3 (by decide) P (fun v1 h2 P => ?_)
    refine mx_goto (pc := 55) 63 (mx_dd dd_X12_exits 31 (55, .goto 8, 3) rfl) rfl ?_
    obtain ⟨g4, P⟩ := P
    refine mx_cVV (pc := 63) (Y := mY_X12_ends) (As := [.int _, .int _]) mx_ml_X12_449 mx_y_X12_ends rfl g4 (by decide) rfl (by decide) rfl (mx_dd dd_X12_exits 35 (63, .invokevirtual 449, 3) rfl) g3 (by decide) P (fun h3 P => ?_)
    refine mx_iconst (pc := 66) (v := (0 : Int32)) (mx_dd dd_X12_exits 36 (66, .iconst 0, 1) rfl) (by decide) ?_
    exact mx_ireturn (pc := 67) (mx_dd dd_X12_exits 37 (67, .ireturn, 1) rfl) rfl rfl P
theorem b_X12_signalAt {d : Nat} {h : mxH} {Q : mxRes → mxH → Prop} (x0 : Nat) (x1 : Int32)
    (P : 1 ≤ d ∧ hpK h x0 = 12 ∧ mx_SM mY_X12_nameAt (d - 1) [.ref x0, .int x1] h (mx_KL (fun v1 h1 => hpK h1 x0 = 12 ∧ ((¬ (lg_cmp v1 (hpL h1 x0 25)) = 0 → ((¬ (lg_cmp v1 (hpL h1 x0 26)) = 0 → ((¬ (lg_cmp v1 (hpL h1 x0 27)) = 0 → ((¬ (lg_cmp v1 (hpL h1 x0 19)) = 0 → Q (.inl (some (.int (-1 : Int32)))) h1) ∧ ((lg_cmp v1 (hpL h1 x0 19)) = 0 → Q (.inl (some (.int (3 : Int32)))) h1))) ∧ ((lg_cmp v1 (hpL h1 x0 27)) = 0 → Q (.inl (some (.int (2 : Int32)))) h1))) ∧ ((lg_cmp v1 (hpL h1 x0 26)) = 0 → Q (.inl (some (.int (1 : Int32)))) h1))) ∧ ((lg_cmp v1 (hpL h1 x0 25)) = 0 → Q (.inl (some (.int (0 : Int32)))) h1))) (mx_XX mY_X12_signalAt Q))) : mx_SM mY_X12_signalAt d [.ref x0, .int x1] h Q := by
  refine mx_SM_of (by decide) (Nat.le_of_ble_eq_true rfl) ?_
  show mx_SX mY_X12_signalAt d 0 [(0, .ref x0), (1, .int x1)] [] h Q
  refine mx_aload_n (pc := 0) 0 (mx_dd dd_X12_signalAt 0 (0, .aload_n 0, 1) rfl) rfl rfl ?_
  refine mx_iload_n (pc := 1) 1 (mx_dd dd_X12_signalAt 1 (1, .iload_n 1, 1) rfl) rfl rfl ?_
  obtain ⟨g1, P⟩ := P
  obtain ⟨g2, P⟩ := P
  refine mx_cVL (pc := 2) (Y := mY_X12_nameAt) (As := [.int _]) mx_ml_X12_624 mx_y_X12_nameAt rfl g2 (by decide) rfl (by decide) rfl (mx_dd dd_X12_signalAt 2 (2, .invokevirtual 624, 3) rfl) g1 (by decide) P (fun v1 h1 P => ?_)
  refine mx_lstore_n (pc := 5) (mx_dd dd_X12_signalAt 3 (5, .lstore_n 2, 1) rfl) rfl (by decide) (lv' := [(2, _), (0, _), (1, _)]) rfl ?_
  refine mx_lload_n (pc := 6) 0 (mx_dd dd_X12_signalAt 4 (6, .lload_n 2, 1) rfl) rfl rfl ?_
  refine mx_aload_n (pc := 7) 1 (mx_dd dd_X12_signalAt 5 (7, .aload_n 0, 1) rfl) rfl rfl ?_
  obtain ⟨g3, P⟩ := P
  refine mx_getL (pc := 8) mx_fl_X12_633 g3 rfl (mx_dd dd_X12_signalAt 6 (8, .getfield 633, 3) rfl) ?_
  refine mx_lcmp (pc := 11) (mx_dd dd_X12_signalAt 7 (11, .lcmp, 1) rfl) ?_
  refine mx_if_ne (pc := 12) 19 (mx_dd dd_X12_signalAt 8 (12, .ifCond .ne 7, 3) rfl) rfl (fun c12 => ?_) (fun c12 => ?_)
  · have P := P.1 c12
    refine mx_lload_n (pc := 19) 0 (mx_dd dd_X12_signalAt 11 (19, .lload_n 2, 1) rfl) rfl rfl ?_
    refine mx_aload_n (pc := 20) 1 (mx_dd dd_X12_signalAt 12 (20, .aload_n 0, 1) rfl) rfl rfl ?_
    refine mx_getL (pc := 21) mx_fl_X12_636 g3 rfl (mx_dd dd_X12_signalAt 13 (21, .getfield 636, 3) rfl) ?_
    refine mx_lcmp (pc := 24) (mx_dd dd_X12_signalAt 14 (24, .lcmp, 1) rfl) ?_
    refine mx_if_ne (pc := 25) 32 (mx_dd dd_X12_signalAt 15 (25, .ifCond .ne 7, 3) rfl) rfl (fun c25 => ?_) (fun c25 => ?_)
    · have P := P.1 c25
      refine mx_lload_n (pc := 32) 0 (mx_dd dd_X12_signalAt 18 (32, .lload_n 2, 1) rfl) rfl rfl ?_
      refine mx_aload_n (pc := 33) 1 (mx_dd dd_X12_signalAt 19 (33, .aload_n 0, 1) rfl) rfl rfl ?_
      refine mx_getL (pc := 34) mx_fl_X12_639 g3 rfl (mx_dd dd_X12_signalAt 20 (34, .getfield 639, 3) rfl) ?_
      refine mx_lcmp (pc := 37) (mx_dd dd_X12_signalAt 21 (37, .lcmp, 1) rfl) ?_
      refine mx_if_ne (pc := 38) 45 (mx_dd dd_X12_signalAt 22 (38, .ifCond .ne 7, 3) rfl) rfl (fun c38 => ?_) (fun c38 => ?_)
      · have P := P.1 c38
        refine mx_lload_n (pc := 45) 0 (mx_dd dd_X12_signalAt 25 (45, .lload_n 2, 1) rfl) rfl rfl ?_
        refine mx_aload_n (pc := 46) 1 (mx_dd dd_X12_signalAt 26 (46, .aload_n 0, 1) rfl) rfl rfl ?_
        refine mx_getL (pc := 47) mx_fl_X12_116 g3 rfl (mx_dd dd_X12_signalAt 27 (47, .getfield 116, 3) rfl) ?_
        refine mx_lcmp (pc := 50) (mx_dd dd_X12_signalAt 28 (50, .lcmp, 1) rfl) ?_
        refine mx_if_ne (pc := 51) 58 (mx_dd dd_X12_signalAt 29 (51, .ifCond .ne 7, 3) rfl) rfl (fun c51 => ?_) (fun c51 => ?_)
        · have P := P.1 c51
          refine mx_iconst (pc := 58) (v := (-1 : Int32)) (mx_dd dd_X12_signalAt 32 (58, .iconst (-1), 1) rfl) (by decide) ?_
          exact mx_ireturn (pc := 59) (mx_dd dd_X12_signalAt 33 (59, .ireturn, 1) rfl) rfl rfl P
        · have P := P.2 c51
          refine mx_iconst (pc := 54) (v := (3 : Int32)) (mx_dd dd_X12_signalAt 30 (54, .iconst 3, 1) rfl) (by decide) ?_
          refine mx_goto (pc := 55) 59 (mx_dd dd_X12_signalAt 31 (55, .goto 4, 3) rfl) rfl ?_
          exact mx_ireturn (pc := 59) (mx_dd dd_X12_signalAt 33 (59, .ireturn, 1) rfl) rfl rfl P
      · have P := P.2 c38
        refine mx_iconst (pc := 41) (v := (2 : Int32)) (mx_dd dd_X12_signalAt 23 (41, .iconst 2, 1) rfl) (by decide) ?_
        refine mx_goto (pc := 42) 59 (mx_dd dd_X12_signalAt 24 (42, .goto 17, 3) rfl) rfl ?_
        exact mx_ireturn (pc := 59) (mx_dd dd_X12_signalAt 33 (59, .ireturn, 1) rfl) rfl rfl P
    · have P := P.2 c25
      refine mx_iconst (pc := 28) (v := (1 : Int32)) (mx_dd dd_X12_signalAt 16 (28, .iconst 1, 1) rfl) (by decide) ?_
      refine mx_goto (pc := 29) 59 (mx_dd dd_X12_signalAt 17 (29, .goto 30, 3) rfl) rfl ?_
      exact mx_ireturn (pc := 59) (mx_dd dd_X12_signalAt 33 (59, .ireturn, 1) rfl) rfl rfl P
  · have P := P.2 c12
    refine mx_iconst (pc := 15) (v := (0 : Int32)) (mx_dd dd_X12_signalAt 9 (15, .iconst 0, 1) rfl) (by decide) ?_
    refine mx_goto (pc := 16) 59 (mx_dd dd_X12_signalAt 10 (16, .goto 43, 3) rfl) rfl ?_
    exact mx_ireturn (pc := 59) (mx_dd dd_X12_signalAt 33 (59, .ireturn, 1) rfl) rfl rfl P
theorem b_X12_traps {d : Nat} {h : mxH} {Q : mxRes → mxH → Prop} (x0 : Nat) (x1 : Int32)
    (P : hpK h x0 = 12 ∧ (((hpI h x0 77) = (2 : Int32) → 1 ≤ d ∧ mx_SM mY_X12_nameAt (d - 1) [.ref x0, .int (0 : Int32)] h (mx_KL (fun v1 h1 => hpK h1 x0 = 12 ∧ mx_SM mY_X12_signalAt (d - 1) [.ref x0, .int (1 : Int32)] h1 (mx_KI (fun v2 h2 => (((lg_cmp v1 (0 : Int64)) = 0 → Q (.inl (some (.int (2 : Int32)))) h2) ∧ (¬ (lg_cmp v1 (0 : Int64)) = 0 → ((¬ v2 = (-1 : Int32) → hpK h2 x0 = 12 ∧ ((¬ (lg_cmp v1 (hpL h2 x0 28)) = 0 → ((¬ (lg_cmp v1 (hpL h2 x0 29)) = 0 → mx_SM mY_X12_setsName (d - 1) [.ref x0, .int x1, .int ((30 : Int32) + v2), .long v1] h2 (mx_KV (fun h3 => Q (.inl (some (.int (0 : Int32)))) h3) (mx_XX mY_X12_traps Q))) ∧ ((lg_cmp v1 (hpL h2 x0 29)) = 0 → mx_SM mY_X12_setsName (d - 1) [.ref x0, .int x1, .int ((30 : Int32) + v2), .long (-2 : Int64)] h2 (mx_KV (fun h4 => Q (.inl (some (.int (0 : Int32)))) h4) (mx_XX mY_X12_traps Q))))) ∧ ((lg_cmp v1 (hpL h2 x0 28)) = 0 → mx_SM mY_X12_setsName (d - 1) [.ref x0, .int x1, .int ((30 : Int32) + v2), .long (0 : Int64)] h2 (mx_KV (fun h5 => Q (.inl (some (.int (0 : Int32)))) h5) (mx_XX mY_X12_traps Q))))) ∧ (v2 = (-1 : Int32) → Q (.inl (some (.int (2 : Int32)))) h2))))) (mx_XX mY_X12_traps Q))) (mx_XX mY_X12_traps Q))) ∧ (¬ (hpI h x0 77) = (2 : Int32) → Q (.inl (some (.int (2 : Int32)))) h))) : mx_SM mY_X12_traps d [.ref x0, .int x1] h Q := by
  refine mx_SM_of (by decide) (Nat.le_of_ble_eq_true rfl) ?_
  show mx_SX mY_X12_traps d 0 [(0, .ref x0), (1, .int x1)] [] h Q
  refine mx_aload_n (pc := 0) 0 (mx_dd dd_X12_traps 0 (0, .aload_n 0, 1) rfl) rfl rfl ?_
  obtain ⟨g1, P⟩ := P
  refine mx_getI (pc := 1) mx_fl_X12_562 g1 rfl (mx_dd dd_X12_traps 1 (1, .getfield 562, 3) rfl) ?_
  refine mx_iconst (pc := 4) (v := (2 : Int32)) (mx_dd dd_X12_traps 2 (4, .iconst 2, 1) rfl) (by decide) ?_
  refine mx_icmp_eq (pc := 5) 10 (mx_dd dd_X12_traps 3 (5, .if_icmp .eq 5, 3) rfl) rfl (fun c5 => ?_) (fun c5 => ?_)
  · have P := P.1 c5
    refine mx_aload_n (pc := 10) 0 (mx_dd dd_X12_traps 6 (10, .aload_n 0, 1) rfl) rfl rfl ?_
    refine mx_iconst (pc := 11) (v := (0 : Int32)) (mx_dd dd_X12_traps 7 (11, .iconst 0, 1) rfl) (by decide) ?_
    obtain ⟨g2, P⟩ := P
    refine mx_cVL (pc := 12) (Y := mY_X12_nameAt) (As := [.int _]) mx_ml_X12_624 mx_y_X12_nameAt rfl g1 (by decide) rfl (by decide) rfl (mx_dd dd_X12_traps 8 (12, .invokevirtual 624, 3) rfl) g2 (by decide) P (fun v1 h1 P => ?_)
    refine mx_lstore_n (pc := 15) (mx_dd dd_X12_traps 9 (15, .lstore_n 2, 1) rfl) rfl (by decide) (lv' := [(2, _), (0, _), (1, _)]) rfl ?_
    refine mx_aload_n (pc := 16) 1 (mx_dd dd_X12_traps 10 (16, .aload_n 0, 1) rfl) rfl rfl ?_
    refine mx_iconst (pc := 17) (v := (1 : Int32)) (mx_dd dd_X12_traps 11 (17, .iconst 1, 1) rfl) (by decide) ?_
    obtain ⟨g3, P⟩ := P
    refine mx_cVI (pc := 18) (Y := mY_X12_signalAt) (As := [.int _]) mx_ml_X12_642 mx_y_X12_signalAt rfl g3 (by decide) rfl (by decide) rfl (mx_dd dd_X12_traps 12 (18, .invokevirtual 642, 3) rfl) g2 (by decide) P (fun v2 h2 P => ?_)
    refine mx_istore (pc := 21) (mx_dd dd_X12_traps 13 (21, .istore 4, 2) rfl) (by decide) (lv' := [(4, _), (2, _), (0, _), (1, _)]) rfl ?_
    refine mx_lload_n (pc := 23) 1 (mx_dd dd_X12_traps 14 (23, .lload_n 2, 1) rfl) rfl rfl ?_
    refine mx_lconst (pc := 24) (v := (0 : Int64)) (mx_dd dd_X12_traps 15 (24, .lconst 0, 1) rfl) (by decide) ?_
    refine mx_lcmp (pc := 25) (mx_dd dd_X12_traps 16 (25, .lcmp, 1) rfl) ?_
    refine mx_if_eq (pc := 26) 35 (mx_dd dd_X12_traps 17 (26, .ifCond .eq 9, 3) rfl) rfl (fun c26 => ?_) (fun c26 => ?_)
    · have P := P.1 c26
      refine mx_iconst (pc := 35) (v := (2 : Int32)) (mx_dd dd_X12_traps 21 (35, .iconst 2, 1) rfl) (by decide) ?_
      exact mx_ireturn (pc := 36) (mx_dd dd_X12_traps 22 (36, .ireturn, 1) rfl) rfl rfl P
    · have P := P.2 c26
      refine mx_iload (pc := 29) 0 (mx_dd dd_X12_traps 18 (29, .iload 4, 2) rfl) rfl ?_
      refine mx_iconst (pc := 31) (v := (-1 : Int32)) (mx_dd dd_X12_traps 19 (31, .iconst (-1), 1) rfl) (by decide) ?_
      refine mx_icmp_ne (pc := 32) 37 (mx_dd dd_X12_traps 20 (32, .if_icmp .ne 5, 3) rfl) rfl (fun c32 => ?_) (fun c32 => ?_)
      · have P := P.1 c32
        refine mx_aload_n (pc := 37) 2 (mx_dd dd_X12_traps 23 (37, .aload_n 0, 1) rfl) rfl rfl ?_
        refine mx_iload_n (pc := 38) 3 (mx_dd dd_X12_traps 24 (38, .iload_n 1, 1) rfl) rfl rfl ?_
        refine mx_bipush (pc := 39) (v := (30 : Int32)) (mx_dd dd_X12_traps 25 (39, .bipush 30, 2) rfl) (by decide) ?_
        refine mx_iload (pc := 41) 0 (mx_dd dd_X12_traps 26 (41, .iload 4, 2) rfl) rfl ?_
        refine mx_iadd (pc := 43) (mx_dd dd_X12_traps 27 (43, .iadd, 1) rfl) ?_
        refine mx_lload_n (pc := 44) 1 (mx_dd dd_X12_traps 28 (44, .lload_n 2, 1) rfl) rfl rfl ?_
        refine mx_aload_n (pc := 45) 2 (mx_dd dd_X12_traps 29 (45, .aload_n 0, 1) rfl) rfl rfl ?_
        obtain ⟨g4, P⟩ := P
        refine mx_getL (pc := 46) mx_fl_X12_645 g4 rfl (mx_dd dd_X12_traps 30 (46, .getfield 645, 3) rfl) ?_
        refine mx_lcmp (pc := 49) (mx_dd dd_X12_traps 31 (49, .lcmp, 1) rfl) ?_
        refine mx_if_ne (pc := 50) 57 (mx_dd dd_X12_traps 32 (50, .ifCond .ne 7, 3) rfl) rfl (fun c50 => ?_) (fun c50 => ?_)
        · have P := P.1 c50
          refine mx_lload_n (pc := 57) 1 (mx_dd dd_X12_traps 35 (57, .lload_n 2, 1) rfl) rfl rfl ?_
          refine mx_aload_n (pc := 58) 2 (mx_dd dd_X12_traps 36 (58, .aload_n 0, 1) rfl) rfl rfl ?_
          refine mx_getL (pc := 59) mx_fl_X12_648 g4 rfl (mx_dd dd_X12_traps 37 (59, .getfield 648, 3) rfl) ?_
          refine mx_lcmp (pc := 62) (mx_dd dd_X12_traps 38 (62, .lcmp, 1) rfl) ?_
          refine mx_if_ne (pc := 63) 72 (mx_dd dd_X12_traps 39 (63, .ifCond .ne 9, 3) rfl) rfl (fun c63 => ?_) (fun c63 => ?_)
          · have P := P.1 c63
            refine mx_lload_n (pc := 72) 1 (mx_dd dd_X12_traps 42 (72, .lload_n 2, 1) rfl) rfl rfl ?_
            refine mx_cVV (pc := 73) (Y := mY_X12_setsName) (As := [.int _, .int _, .long _]) mx_ml_X12_427 mx_y_X12_setsName rfl g4 (by decide) rfl (by decide) rfl (mx_dd dd_X12_traps 43 (73, .invokevirtual 427, 3) rfl) g2 (by decide) P (fun h3 P => ?_)
            refine mx_iconst (pc := 76) (v := (0 : Int32)) (mx_dd dd_X12_traps 44 (76, .iconst 0, 1) rfl) (by decide) ?_
            exact mx_ireturn (pc := 77) (mx_dd dd_X12_traps 45 (77, .ireturn, 1) rfl) rfl rfl P
          · have P := P.2 c63
            refine mx_ldc2 (pc := 66) mx_cL_X12_431 (mx_dd dd_X12_traps 40 (66, .ldc2_w 431, 3) rfl) ?_
            refine mx_goto (pc := 69) 73 (mx_dd dd_X12_traps 41 (69, .goto 4, 3) rfl) rfl ?_
            refine mx_cVV (pc := 73) (Y := mY_X12_setsName) (As := [.int _, .int _, .long _]) mx_ml_X12_427 mx_y_X12_setsName rfl g4 (by decide) rfl (by decide) rfl (mx_dd dd_X12_traps 43 (73, .invokevirtual 427, 3) rfl) g2 (by decide) P (fun h4 P => ?_)
            refine mx_iconst (pc := 76) (v := (0 : Int32)) (mx_dd dd_X12_traps 44 (76, .iconst 0, 1) rfl) (by decide) ?_
            exact mx_ireturn (pc := 77) (mx_dd dd_X12_traps 45 (77, .ireturn, 1) rfl) rfl rfl P
        · have P := P.2 c50
          refine mx_lconst (pc := 53) (v := (0 : Int64)) (mx_dd dd_X12_traps 33 (53, .lconst 0, 1) rfl) (by decide) ?_
          refine mx_goto (pc := 54) 73 (mx_dd dd_X12_traps 34 (54, .goto 19, 3) rfl) rfl ?_
          refine mx_cVV (pc := 73) (Y := mY_X12_setsName) (As := [.int _, .int _, .long _]) mx_ml_X12_427 mx_y_X12_setsName rfl g4 (by decide) rfl (by decide) rfl (mx_dd dd_X12_traps 43 (73, .invokevirtual 427, 3) rfl) g2 (by decide) P (fun h5 P => ?_)
          refine mx_iconst (pc := 76) (v := (0 : Int32)) (mx_dd dd_X12_traps 44 (76, .iconst 0, 1) rfl) (by decide) ?_
          exact mx_ireturn (pc := 77) (mx_dd dd_X12_traps 45 (77, .ireturn, 1) rfl) rfl rfl P
      · have P := P.2 c32
        refine mx_iconst (pc := 35) (v := (2 : Int32)) (mx_dd dd_X12_traps 21 (35, .iconst 2, 1) rfl) (by decide) ?_
        exact mx_ireturn (pc := 36) (mx_dd dd_X12_traps 22 (36, .ireturn, 1) rfl) rfl rfl P
  · have P := P.2 c5
    refine mx_iconst (pc := 8) (v := (2 : Int32)) (mx_dd dd_X12_traps 4 (8, .iconst 2, 1) rfl) (by decide) ?_
    exact mx_ireturn (pc := 9) (mx_dd dd_X12_traps 5 (9, .ireturn, 1) rfl) rfl rfl P
theorem b_X12_raises {d : Nat} {h : mxH} {Q : mxRes → mxH → Prop} (x0 : Nat) (x1 : Int32)
    (P : hpK h x0 = 12 ∧ ((¬ (hpI h x0 77) = (1 : Int32) → 1 ≤ d ∧ mx_SM mY_X12_in (d - 1) [.int (-1 : Int32), .int (0 : Int32), .int (2 : Int32)] h (mx_KI (fun v1 h1 => ((¬ v1 = 0 → hpK h1 x0 = 12 ∧ mx_SM mY_X12_nameOf (d - 1) [.ref x0, .int x1, .int ((30 : Int32) + (-1 : Int32))] h1 (mx_KL (fun v2 h2 => ((¬ (lg_cmp v2 (0 : Int64)) = 0 → mx_SX mY_X12_raises d 67 [(0, .ref x0), (1, .int x1), (3, .long v2)] [] h2 Q) ∧ ((lg_cmp v2 (0 : Int64)) = 0 → ((¬ (-1 : Int32) = (2 : Int32) → hpK h2 x0 = 12 ∧ mx_SM mY_X12_ends (d - 1) [.ref x0, .int x1, .int ((128 : Int32) + ((-1 : Int32) + (1 : Int32)))] h2 (mx_KV (fun h3 => mx_SX mY_X12_raises d 67 [(0, .ref x0), (1, .int x1), (3, .long v2)] [] h3 Q) (mx_XX mY_X12_raises Q))) ∧ ((-1 : Int32) = (2 : Int32) → hpK h2 x0 = 12 ∧ mx_SM mY_X12_ends (d - 1) [.ref x0, .int x1, .int ((128 : Int32) + (15 : Int32))] h2 (mx_KV (fun h4 => mx_SX mY_X12_raises d 67 [(0, .ref x0), (1, .int x1), (3, .long v2)] [] h4 Q) (mx_XX mY_X12_raises Q))))))) (mx_XX mY_X12_raises Q))) ∧ (v1 = 0 → Q (.inl (some (.int (2 : Int32)))) h1))) (mx_XX mY_X12_raises Q))) ∧ ((hpI h x0 77) = (1 : Int32) → 1 ≤ d ∧ mx_SM mY_X12_signalAt (d - 1) [.ref x0, .int (0 : Int32)] h (mx_KI (fun v3 h5 => mx_SM mY_X12_in (d - 1) [.int v3, .int (0 : Int32), .int (2 : Int32)] h5 (mx_KI (fun v4 h6 => ((¬ v4 = 0 → hpK h6 x0 = 12 ∧ mx_SM mY_X12_nameOf (d - 1) [.ref x0, .int x1, .int ((30 : Int32) + v3)] h6 (mx_KL (fun v5 h7 => ((¬ (lg_cmp v5 (0 : Int64)) = 0 → mx_SX mY_X12_raises d 67 [(0, .ref x0), (1, .int x1), (3, .long v5)] [] h7 Q) ∧ ((lg_cmp v5 (0 : Int64)) = 0 → ((¬ v3 = (2 : Int32) → hpK h7 x0 = 12 ∧ mx_SM mY_X12_ends (d - 1) [.ref x0, .int x1, .int ((128 : Int32) + (v3 + (1 : Int32)))] h7 (mx_KV (fun h8 => mx_SX mY_X12_raises d 67 [(0, .ref x0), (1, .int x1), (3, .long v5)] [] h8 Q) (mx_XX mY_X12_raises Q))) ∧ (v3 = (2 : Int32) → hpK h7 x0 = 12 ∧ mx_SM mY_X12_ends (d - 1) [.ref x0, .int x1, .int ((128 : Int32) + (15 : Int32))] h7 (mx_KV (fun h9 => mx_SX mY_X12_raises d 67 [(0, .ref x0), (1, .int x1), (3, .long v5)] [] h9 Q) (mx_XX mY_X12_raises Q))))))) (mx_XX mY_X12_raises Q))) ∧ (v4 = 0 → Q (.inl (some (.int (2 : Int32)))) h6))) (mx_XX mY_X12_raises Q))) (mx_XX mY_X12_raises Q))))) : mx_SM mY_X12_raises d [.ref x0, .int x1] h Q := by
  refine mx_SM_of (by decide) (Nat.le_of_ble_eq_true rfl) ?_
  show mx_SX mY_X12_raises d 0 [(0, .ref x0), (1, .int x1)] [] h Q
  refine mx_aload_n (pc := 0) 0 (mx_dd dd_X12_raises_0 0 (0, .aload_n 0, 1) rfl) rfl rfl ?_
  obtain ⟨g1, P⟩ := P
  refine mx_getI (pc := 1) mx_fl_X12_562 g1 rfl (mx_dd dd_X12_raises_0 1 (1, .getfield 562, 3) rfl) ?_
  refine mx_iconst (pc := 4) (v := (1 : Int32)) (mx_dd dd_X12_raises_0 2 (4, .iconst 1, 1) rfl) (by decide) ?_
  refine mx_icmp_ne (pc := 5) 16 (mx_dd dd_X12_raises_0 3 (5, .if_icmp .ne 11, 3) rfl) rfl (fun c5 => ?_) (fun c5 => ?_)
  · have P := P.1 c5
    refine mx_iconst (pc := 16) (v := (-1 : Int32)) (mx_dd dd_X12_raises_0 8 (16, .iconst (-1), 1) rfl) (by decide) ?_
    refine mx_istore_n (pc := 17) (mx_dd dd_X12_raises_0 9 (17, .istore_n 2, 1) rfl) rfl (by decide) (lv' := [(2, _), (0, _), (1, _)]) rfl ?_
    refine mx_iload_n (pc := 18) 0 (mx_dd dd_X12_raises_0 10 (18, .iload_n 2, 1) rfl) rfl rfl ?_
    refine mx_iconst (pc := 19) (v := (0 : Int32)) (mx_dd dd_X12_raises_0 11 (19, .iconst 0, 1) rfl) (by decide) ?_
    refine mx_iconst (pc := 20) (v := (2 : Int32)) (mx_dd dd_X12_raises_0 12 (20, .iconst 2, 1) rfl) (by decide) ?_
    obtain ⟨g2, P⟩ := P
    refine mx_cSI (pc := 21) (Y := mY_X12_in) (As := [.int _, .int _, .int _]) mx_ml_X12_571 mx_y_X12_in rfl rfl (by decide) rfl (mx_dd dd_X12_raises_0 13 (21, .invokestatic 571, 3) rfl) g2 (by decide) P (fun v1 h1 P => ?_)
    refine mx_if_ne (pc := 24) 29 (mx_dd dd_X12_raises_0 14 (24, .ifCond .ne 5, 3) rfl) rfl (fun c24 => ?_) (fun c24 => ?_)
    · have P := P.1 c24
      refine mx_aload_n (pc := 29) 1 (mx_dd dd_X12_raises_0 17 (29, .aload_n 0, 1) rfl) rfl rfl ?_
      refine mx_iload_n (pc := 30) 2 (mx_dd dd_X12_raises_0 18 (30, .iload_n 1, 1) rfl) rfl rfl ?_
      refine mx_bipush (pc := 31) (v := (30 : Int32)) (mx_dd dd_X12_raises_0 19 (31, .bipush 30, 2) rfl) (by decide) ?_
      refine mx_iload_n (pc := 33) 0 (mx_dd dd_X12_raises_0 20 (33, .iload_n 2, 1) rfl) rfl rfl ?_
      refine mx_iadd (pc := 34) (mx_dd dd_X12_raises_0 21 (34, .iadd, 1) rfl) ?_
      obtain ⟨g3, P⟩ := P
      refine mx_cVL (pc := 35) (Y := mY_X12_nameOf) (As := [.int _, .int _]) mx_ml_X12_423 mx_y_X12_nameOf rfl g3 (by decide) rfl (by decide) rfl (mx_dd dd_X12_raises_0 22 (35, .invokevirtual 423, 3) rfl) g2 (by decide) P (fun v2 h2 P => ?_)
      refine mx_lstore_n (pc := 38) (mx_dd dd_X12_raises_0 23 (38, .lstore_n 3, 1) rfl) rfl (by decide) (lv' := [(3, _), (2, _), (0, _), (1, _)]) rfl ?_
      refine mx_lload_n (pc := 39) 0 (mx_dd dd_X12_raises_0 24 (39, .lload_n 3, 1) rfl) rfl rfl ?_
      refine mx_lconst (pc := 40) (v := (0 : Int64)) (mx_dd dd_X12_raises_0 25 (40, .lconst 0, 1) rfl) (by decide) ?_
      refine mx_lcmp (pc := 41) (mx_dd dd_X12_raises_0 26 (41, .lcmp, 1) rfl) ?_
      refine mx_if_ne (pc := 42) 67 (mx_dd dd_X12_raises_0 27 (42, .ifCond .ne 25, 3) rfl) rfl (fun c42 => ?_) (fun c42 => ?_)
      · have P := P.1 c42
        refine mx_sel [2, 3, 0] rfl ?_
        exact P
      · have P := P.2 c42
        refine mx_aload_n (pc := 45) 2 (mx_dd dd_X12_raises_0 28 (45, .aload_n 0, 1) rfl) rfl rfl ?_
        refine mx_iload_n (pc := 46) 3 (mx_dd dd_X12_raises_0 29 (46, .iload_n 1, 1) rfl) rfl rfl ?_
        refine mx_sipush (pc := 47) (v := (128 : Int32)) (mx_dd dd_X12_raises_0 30 (47, .sipush 128, 3) rfl) (by decide) ?_
        refine mx_iload_n (pc := 50) 1 (mx_dd dd_X12_raises_0 31 (50, .iload_n 2, 1) rfl) rfl rfl ?_
        refine mx_iconst (pc := 51) (v := (2 : Int32)) (mx_dd dd_X12_raises_0 32 (51, .iconst 2, 1) rfl) (by decide) ?_
        refine mx_icmp_ne (pc := 52) 60 (mx_dd dd_X12_raises_0 33 (52, .if_icmp .ne 8, 3) rfl) rfl (fun c52 => ?_) (fun c52 => ?_)
        · have P := P.1 c52
          refine mx_iload_n (pc := 60) 1 (mx_dd dd_X12_raises_0 36 (60, .iload_n 2, 1) rfl) rfl rfl ?_
          refine mx_iconst (pc := 61) (v := (1 : Int32)) (mx_dd dd_X12_raises_0 37 (61, .iconst 1, 1) rfl) (by decide) ?_
          refine mx_iadd (pc := 62) (mx_dd dd_X12_raises_0 38 (62, .iadd, 1) rfl) ?_
          refine mx_iadd (pc := 63) (mx_dd dd_X12_raises_0 39 (63, .iadd, 1) rfl) ?_
          obtain ⟨g4, P⟩ := P
          refine mx_cVV (pc := 64) (Y := mY_X12_ends) (As := [.int _, .int _]) mx_ml_X12_449 mx_y_X12_ends rfl g4 (by decide) rfl (by decide) rfl (mx_dd dd_X12_raises_1 0 (64, .invokevirtual 449, 3) rfl) g2 (by decide) P (fun h3 P => ?_)
          refine mx_sel [2, 3, 0] rfl ?_
          exact P
        · have P := P.2 c52
          refine mx_bipush (pc := 55) (v := (15 : Int32)) (mx_dd dd_X12_raises_0 34 (55, .bipush 15, 2) rfl) (by decide) ?_
          refine mx_goto (pc := 57) 63 (mx_dd dd_X12_raises_0 35 (57, .goto 6, 3) rfl) rfl ?_
          refine mx_iadd (pc := 63) (mx_dd dd_X12_raises_0 39 (63, .iadd, 1) rfl) ?_
          obtain ⟨g5, P⟩ := P
          refine mx_cVV (pc := 64) (Y := mY_X12_ends) (As := [.int _, .int _]) mx_ml_X12_449 mx_y_X12_ends rfl g5 (by decide) rfl (by decide) rfl (mx_dd dd_X12_raises_1 0 (64, .invokevirtual 449, 3) rfl) g2 (by decide) P (fun h4 P => ?_)
          refine mx_sel [2, 3, 0] rfl ?_
          exact P
    · have P := P.2 c24
      refine mx_iconst (pc := 27) (v := (2 : Int32)) (mx_dd dd_X12_raises_0 15 (27, .iconst 2, 1) rfl) (by decide) ?_
      exact mx_ireturn (pc := 28) (mx_dd dd_X12_raises_0 16 (28, .ireturn, 1) rfl) rfl rfl P
  · have P := P.2 c5
    refine mx_aload_n (pc := 8) 0 (mx_dd dd_X12_raises_0 4 (8, .aload_n 0, 1) rfl) rfl rfl ?_
    refine mx_iconst (pc := 9) (v := (0 : Int32)) (mx_dd dd_X12_raises_0 5 (9, .iconst 0, 1) rfl) (by decide) ?_
    obtain ⟨g6, P⟩ := P
    refine mx_cVI (pc := 10) (Y := mY_X12_signalAt) (As := [.int _]) mx_ml_X12_642 mx_y_X12_signalAt rfl g1 (by decide) rfl (by decide) rfl (mx_dd dd_X12_raises_0 6 (10, .invokevirtual 642, 3) rfl) g6 (by decide) P (fun v3 h5 P => ?_)
    refine mx_goto (pc := 13) 17 (mx_dd dd_X12_raises_0 7 (13, .goto 4, 3) rfl) rfl ?_
    refine mx_istore_n (pc := 17) (mx_dd dd_X12_raises_0 9 (17, .istore_n 2, 1) rfl) rfl (by decide) (lv' := [(2, _), (0, _), (1, _)]) rfl ?_
    refine mx_iload_n (pc := 18) 0 (mx_dd dd_X12_raises_0 10 (18, .iload_n 2, 1) rfl) rfl rfl ?_
    refine mx_iconst (pc := 19) (v := (0 : Int32)) (mx_dd dd_X12_raises_0 11 (19, .iconst 0, 1) rfl) (by decide) ?_
    refine mx_iconst (pc := 20) (v := (2 : Int32)) (mx_dd dd_X12_raises_0 12 (20, .iconst 2, 1) rfl) (by decide) ?_
    refine mx_cSI (pc := 21) (Y := mY_X12_in) (As := [.int _, .int _, .int _]) mx_ml_X12_571 mx_y_X12_in rfl rfl (by decide) rfl (mx_dd dd_X12_raises_0 13 (21, .invokestatic 571, 3) rfl) g6 (by decide) P (fun v4 h6 P => ?_)
    refine mx_if_ne (pc := 24) 29 (mx_dd dd_X12_raises_0 14 (24, .ifCond .ne 5, 3) rfl) rfl (fun c24 => ?_) (fun c24 => ?_)
    · have P := P.1 c24
      refine mx_aload_n (pc := 29) 1 (mx_dd dd_X12_raises_0 17 (29, .aload_n 0, 1) rfl) rfl rfl ?_
      refine mx_iload_n (pc := 30) 2 (mx_dd dd_X12_raises_0 18 (30, .iload_n 1, 1) rfl) rfl rfl ?_
      refine mx_bipush (pc := 31) (v := (30 : Int32)) (mx_dd dd_X12_raises_0 19 (31, .bipush 30, 2) rfl) (by decide) ?_
      refine mx_iload_n (pc := 33) 0 (mx_dd dd_X12_raises_0 20 (33, .iload_n 2, 1) rfl) rfl rfl ?_
      refine mx_iadd (pc := 34) (mx_dd dd_X12_raises_0 21 (34, .iadd, 1) rfl) ?_
      obtain ⟨g7, P⟩ := P
      refine mx_cVL (pc := 35) (Y := mY_X12_nameOf) (As := [.int _, .int _]) mx_ml_X12_423 mx_y_X12_nameOf rfl g7 (by decide) rfl (by decide) rfl (mx_dd dd_X12_raises_0 22 (35, .invokevirtual 423, 3) rfl) g6 (by decide) P (fun v5 h7 P => ?_)
      refine mx_lstore_n (pc := 38) (mx_dd dd_X12_raises_0 23 (38, .lstore_n 3, 1) rfl) rfl (by decide) (lv' := [(3, _), (2, _), (0, _), (1, _)]) rfl ?_
      refine mx_lload_n (pc := 39) 0 (mx_dd dd_X12_raises_0 24 (39, .lload_n 3, 1) rfl) rfl rfl ?_
      refine mx_lconst (pc := 40) (v := (0 : Int64)) (mx_dd dd_X12_raises_0 25 (40, .lconst 0, 1) rfl) (by decide) ?_
      refine mx_lcmp (pc := 41) (mx_dd dd_X12_raises_0 26 (41, .lcmp, 1) rfl) ?_
      refine mx_if_ne (pc := 42) 67 (mx_dd dd_X12_raises_0 27 (42, .ifCond .ne 25, 3) rfl) rfl (fun c42 => ?_) (fun c42 => ?_)
      · have P := P.1 c42
        refine mx_sel [2, 3, 0] rfl ?_
        exact P
      · have P := P.2 c42
        refine mx_aload_n (pc := 45) 2 (mx_dd dd_X12_raises_0 28 (45, .aload_n 0, 1) rfl) rfl rfl ?_
        refine mx_iload_n (pc := 46) 3 (mx_dd dd_X12_raises_0 29 (46, .iload_n 1, 1) rfl) rfl rfl ?_
        refine mx_sipush (pc := 47) (v := (128 : Int32)) (mx_dd dd_X12_raises_0 30 (47, .sipush 128, 3) rfl) (by decide) ?_
        refine mx_iload_n (pc := 50) 1 (mx_dd dd_X12_raises_0 31 (50, .iload_n 2, 1) rfl) rfl rfl ?_
        refine mx_iconst (pc := 51) (v := (2 : Int32)) (mx_dd dd_X12_raises_0 32 (51, .iconst 2, 1) rfl) (by decide) ?_
        refine mx_icmp_ne (pc := 52) 60 (mx_dd dd_X12_raises_0 33 (52, .if_icmp .ne 8, 3) rfl) rfl (fun c52 => ?_) (fun c52 => ?_)
        · have P := P.1 c52
          refine mx_iload_n (pc := 60) 1 (mx_dd dd_X12_raises_0 36 (60, .iload_n 2, 1) rfl) rfl rfl ?_
          refine mx_iconst (pc := 61) (v := (1 : Int32)) (mx_dd dd_X12_raises_0 37 (61, .iconst 1, 1) rfl) (by decide) ?_
          refine mx_iadd (pc := 62) (mx_dd dd_X12_raises_0 38 (62, .iadd, 1) rfl) ?_
          refine mx_iadd (pc := 63) (mx_dd dd_X12_raises_0 39 (63, .iadd, 1) rfl) ?_
          obtain ⟨g8, P⟩ := P
          refine mx_cVV (pc := 64) (Y := mY_X12_ends) (As := [.int _, .int _]) mx_ml_X12_449 mx_y_X12_ends rfl g8 (by decide) rfl (by decide) rfl (mx_dd dd_X12_raises_1 0 (64, .invokevirtual 449, 3) rfl) g6 (by decide) P (fun h8 P => ?_)
          refine mx_sel [2, 3, 0] rfl ?_
          exact P
        · have P := P.2 c52
          refine mx_bipush (pc := 55) (v := (15 : Int32)) (mx_dd dd_X12_raises_0 34 (55, .bipush 15, 2) rfl) (by decide) ?_
          refine mx_goto (pc := 57) 63 (mx_dd dd_X12_raises_0 35 (57, .goto 6, 3) rfl) rfl ?_
          refine mx_iadd (pc := 63) (mx_dd dd_X12_raises_0 39 (63, .iadd, 1) rfl) ?_
          obtain ⟨g9, P⟩ := P
          refine mx_cVV (pc := 64) (Y := mY_X12_ends) (As := [.int _, .int _]) mx_ml_X12_449 mx_y_X12_ends rfl g9 (by decide) rfl (by decide) rfl (mx_dd dd_X12_raises_1 0 (64, .invokevirtual 449, 3) rfl) g6 (by decide) P (fun h9 P => ?_)
          refine mx_sel [2, 3, 0] rfl ?_
          exact P
    · have P := P.2 c24
      refine mx_iconst (pc := 27) (v := (2 : Int32)) (mx_dd dd_X12_raises_0 15 (27, .iconst 2, 1) rfl) (by decide) ?_
      exact mx_ireturn (pc := 28) (mx_dd dd_X12_raises_0 16 (28, .ireturn, 1) rfl) rfl rfl P
theorem b_X12_raises_67 {d : Nat} {h : mxH} {Q : mxRes → mxH → Prop} (x0 : Nat) (x1 : Int32) (x3 : Int64)
    (P : (((lg_cmp x3 (0 : Int64)) ≤ 0 → (((-1 : Int32) = (-1 : Int32) → Q (.inl (some (.int (0 : Int32)))) h) ∧ (¬ (-1 : Int32) = (-1 : Int32) → 1 ≤ d ∧ hpK h x0 = 12 ∧ mx_SM mY_X12_of (d - 1) [.ref x0, .int x1, .int ((22 : Int32) + (-1 : Int32))] h (mx_KI (fun v1 h1 => hpK h1 x0 = 12 ∧ mx_SM mY_X12_calls (d - 1) [.ref x0, .int x1, .int v1] h1 (mx_KV (fun h2 => Q (.inl (some (.int (0 : Int32)))) h2) (mx_XX mY_X12_raises Q))) (mx_XX mY_X12_raises Q))))) ∧ (¬ (lg_cmp x3 (0 : Int64)) ≤ 0 → 1 ≤ d ∧ hpK h x0 = 12 ∧ mx_SM mY_X12_functionOf (d - 1) [.ref x0, .int x1, .long x3] h (mx_KI (fun v2 h3 => ((v2 = (-1 : Int32) → Q (.inl (some (.int (0 : Int32)))) h3) ∧ (¬ v2 = (-1 : Int32) → hpK h3 x0 = 12 ∧ mx_SM mY_X12_of (d - 1) [.ref x0, .int x1, .int ((22 : Int32) + v2)] h3 (mx_KI (fun v3 h4 => hpK h4 x0 = 12 ∧ mx_SM mY_X12_calls (d - 1) [.ref x0, .int x1, .int v3] h4 (mx_KV (fun h5 => Q (.inl (some (.int (0 : Int32)))) h5) (mx_XX mY_X12_raises Q))) (mx_XX mY_X12_raises Q))))) (mx_XX mY_X12_raises Q))))) : mx_SX mY_X12_raises d 67 [(0, .ref x0), (1, .int x1), (3, .long x3)] [] h Q := by
  refine mx_lload_n (pc := 67) 2 (mx_dd dd_X12_raises_1 1 (67, .lload_n 3, 1) rfl) rfl rfl ?_
  refine mx_lconst (pc := 68) (v := (0 : Int64)) (mx_dd dd_X12_raises_1 2 (68, .lconst 0, 1) rfl) (by decide) ?_
  refine mx_lcmp (pc := 69) (mx_dd dd_X12_raises_1 3 (69, .lcmp, 1) rfl) ?_
  refine mx_if_le (pc := 70) 82 (mx_dd dd_X12_raises_1 4 (70, .ifCond .le 12, 3) rfl) rfl (fun c70 => ?_) (fun c70 => ?_)
  · have P := P.1 c70
    refine mx_iconst (pc := 82) (v := (-1 : Int32)) (mx_dd dd_X12_raises_1 10 (82, .iconst (-1), 1) rfl) (by decide) ?_
    refine mx_istore (pc := 83) (mx_dd dd_X12_raises_1 11 (83, .istore 5, 2) rfl) (by decide) (lv' := [(5, _), (0, _), (1, _), (3, _)]) rfl ?_
    refine mx_iload (pc := 85) 0 (mx_dd dd_X12_raises_1 12 (85, .iload 5, 2) rfl) rfl ?_
    refine mx_iconst (pc := 87) (v := (-1 : Int32)) (mx_dd dd_X12_raises_1 13 (87, .iconst (-1), 1) rfl) (by decide) ?_
    refine mx_icmp_eq (pc := 88) 106 (mx_dd dd_X12_raises_1 14 (88, .if_icmp .eq 18, 3) rfl) rfl (fun c88 => ?_) (fun c88 => ?_)
    · have P := P.1 c88
      refine mx_iconst (pc := 106) (v := (0 : Int32)) (mx_dd dd_X12_raises_1 24 (106, .iconst 0, 1) rfl) (by decide) ?_
      exact mx_ireturn (pc := 107) (mx_dd dd_X12_raises_1 25 (107, .ireturn, 1) rfl) rfl rfl P
    · have P := P.2 c88
      refine mx_aload_n (pc := 91) 1 (mx_dd dd_X12_raises_1 15 (91, .aload_n 0, 1) rfl) rfl rfl ?_
      refine mx_iload_n (pc := 92) 2 (mx_dd dd_X12_raises_1 16 (92, .iload_n 1, 1) rfl) rfl rfl ?_
      refine mx_aload_n (pc := 93) 1 (mx_dd dd_X12_raises_1 17 (93, .aload_n 0, 1) rfl) rfl rfl ?_
      refine mx_iload_n (pc := 94) 2 (mx_dd dd_X12_raises_1 18 (94, .iload_n 1, 1) rfl) rfl rfl ?_
      refine mx_bipush (pc := 95) (v := (22 : Int32)) (mx_dd dd_X12_raises_1 19 (95, .bipush 22, 2) rfl) (by decide) ?_
      refine mx_iload (pc := 97) 0 (mx_dd dd_X12_raises_1 20 (97, .iload 5, 2) rfl) rfl ?_
      refine mx_iadd (pc := 99) (mx_dd dd_X12_raises_1 21 (99, .iadd, 1) rfl) ?_
      obtain ⟨g1, P⟩ := P
      obtain ⟨g2, P⟩ := P
      refine mx_cVI (pc := 100) (Y := mY_X12_of) (As := [.int _, .int _]) mx_ml_X12_416 mx_y_X12_of rfl g2 (by decide) rfl (by simp [Value.category]) rfl (mx_dd dd_X12_raises_1 22 (100, .invokevirtual 416, 3) rfl) g1 (by decide) P (fun v1 h1 P => ?_)
      obtain ⟨g3, P⟩ := P
      refine mx_cVV (pc := 103) (Y := mY_X12_calls) (As := [.int _, .int _]) mx_ml_X12_537 mx_y_X12_calls rfl g3 (by decide) rfl (by decide) rfl (mx_dd dd_X12_raises_1 23 (103, .invokevirtual 537, 3) rfl) g1 (by decide) P (fun h2 P => ?_)
      refine mx_iconst (pc := 106) (v := (0 : Int32)) (mx_dd dd_X12_raises_1 24 (106, .iconst 0, 1) rfl) (by decide) ?_
      exact mx_ireturn (pc := 107) (mx_dd dd_X12_raises_1 25 (107, .ireturn, 1) rfl) rfl rfl P
  · have P := P.2 c70
    refine mx_aload_n (pc := 73) 0 (mx_dd dd_X12_raises_1 5 (73, .aload_n 0, 1) rfl) rfl rfl ?_
    refine mx_iload_n (pc := 74) 1 (mx_dd dd_X12_raises_1 6 (74, .iload_n 1, 1) rfl) rfl rfl ?_
    refine mx_lload_n (pc := 75) 2 (mx_dd dd_X12_raises_1 7 (75, .lload_n 3, 1) rfl) rfl rfl ?_
    obtain ⟨g4, P⟩ := P
    obtain ⟨g5, P⟩ := P
    refine mx_cVI (pc := 76) (Y := mY_X12_functionOf) (As := [.int _, .long _]) mx_ml_X12_534 mx_y_X12_functionOf rfl g5 (by decide) rfl (by decide) rfl (mx_dd dd_X12_raises_1 8 (76, .invokevirtual 534, 3) rfl) g4 (by decide) P (fun v2 h3 P => ?_)
    refine mx_goto (pc := 79) 83 (mx_dd dd_X12_raises_1 9 (79, .goto 4, 3) rfl) rfl ?_
    refine mx_istore (pc := 83) (mx_dd dd_X12_raises_1 11 (83, .istore 5, 2) rfl) (by decide) (lv' := [(5, _), (0, _), (1, _), (3, _)]) rfl ?_
    refine mx_iload (pc := 85) 0 (mx_dd dd_X12_raises_1 12 (85, .iload 5, 2) rfl) rfl ?_
    refine mx_iconst (pc := 87) (v := (-1 : Int32)) (mx_dd dd_X12_raises_1 13 (87, .iconst (-1), 1) rfl) (by decide) ?_
    refine mx_icmp_eq (pc := 88) 106 (mx_dd dd_X12_raises_1 14 (88, .if_icmp .eq 18, 3) rfl) rfl (fun c88 => ?_) (fun c88 => ?_)
    · have P := P.1 c88
      refine mx_iconst (pc := 106) (v := (0 : Int32)) (mx_dd dd_X12_raises_1 24 (106, .iconst 0, 1) rfl) (by decide) ?_
      exact mx_ireturn (pc := 107) (mx_dd dd_X12_raises_1 25 (107, .ireturn, 1) rfl) rfl rfl P
    · have P := P.2 c88
      refine mx_aload_n (pc := 91) 1 (mx_dd dd_X12_raises_1 15 (91, .aload_n 0, 1) rfl) rfl rfl ?_
      refine mx_iload_n (pc := 92) 2 (mx_dd dd_X12_raises_1 16 (92, .iload_n 1, 1) rfl) rfl rfl ?_
      refine mx_aload_n (pc := 93) 1 (mx_dd dd_X12_raises_1 17 (93, .aload_n 0, 1) rfl) rfl rfl ?_
      refine mx_iload_n (pc := 94) 2 (mx_dd dd_X12_raises_1 18 (94, .iload_n 1, 1) rfl) rfl rfl ?_
      refine mx_bipush (pc := 95) (v := (22 : Int32)) (mx_dd dd_X12_raises_1 19 (95, .bipush 22, 2) rfl) (by decide) ?_
      refine mx_iload (pc := 97) 0 (mx_dd dd_X12_raises_1 20 (97, .iload 5, 2) rfl) rfl ?_
      refine mx_iadd (pc := 99) (mx_dd dd_X12_raises_1 21 (99, .iadd, 1) rfl) ?_
      obtain ⟨g6, P⟩ := P
      refine mx_cVI (pc := 100) (Y := mY_X12_of) (As := [.int _, .int _]) mx_ml_X12_416 mx_y_X12_of rfl g6 (by decide) rfl (by simp [Value.category]) rfl (mx_dd dd_X12_raises_1 22 (100, .invokevirtual 416, 3) rfl) g4 (by decide) P (fun v3 h4 P => ?_)
      obtain ⟨g7, P⟩ := P
      refine mx_cVV (pc := 103) (Y := mY_X12_calls) (As := [.int _, .int _]) mx_ml_X12_537 mx_y_X12_calls rfl g7 (by decide) rfl (by decide) rfl (mx_dd dd_X12_raises_1 23 (103, .invokevirtual 537, 3) rfl) g4 (by decide) P (fun h5 P => ?_)
      refine mx_iconst (pc := 106) (v := (0 : Int32)) (mx_dd dd_X12_raises_1 24 (106, .iconst 0, 1) rfl) (by decide) ?_
      exact mx_ireturn (pc := 107) (mx_dd dd_X12_raises_1 25 (107, .ireturn, 1) rfl) rfl rfl P
theorem b_X12_setsOption {d : Nat} {h : mxH} {Q : mxRes → mxH → Prop} (x0 : Nat) (x1 : Int32)
    (P : hpK h x0 = 12 ∧ ((¬ (hpI h x0 77) = (2 : Int32) → Q (.inl (some (.int (2 : Int32)))) h) ∧ ((hpI h x0 77) = (2 : Int32) → 1 ≤ d ∧ mx_SM mY_X12_nameAt (d - 1) [.ref x0, .int (0 : Int32)] h (mx_KL (fun v1 h1 => hpK h1 x0 = 12 ∧ (((lg_cmp v1 (hpL h1 x0 30)) = 0 → mx_SM mY_X12_nameAt (d - 1) [.ref x0, .int (1 : Int32)] h1 (mx_KL (fun v2 h2 => hpK h2 x0 = 12 ∧ (((lg_cmp v2 (hpL h2 x0 31)) = 0 → mx_SX mY_X12_setsOption d 49 [(0, .ref x0), (1, .int x1), (2, .long v2)] [] h2 Q) ∧ (¬ (lg_cmp v2 (hpL h2 x0 31)) = 0 → (((lg_cmp v2 (hpL h2 x0 32)) = 0 → mx_SX mY_X12_setsOption d 49 [(0, .ref x0), (1, .int x1), (2, .long v2)] [] h2 Q) ∧ (¬ (lg_cmp v2 (hpL h2 x0 32)) = 0 → Q (.inl (some (.int (2 : Int32)))) h2))))) (mx_XX mY_X12_setsOption Q))) ∧ (¬ (lg_cmp v1 (hpL h1 x0 30)) = 0 → Q (.inl (some (.int (2 : Int32)))) h1))) (mx_XX mY_X12_setsOption Q))))) : mx_SM mY_X12_setsOption d [.ref x0, .int x1] h Q := by
  refine mx_SM_of (by decide) (Nat.le_of_ble_eq_true rfl) ?_
  show mx_SX mY_X12_setsOption d 0 [(0, .ref x0), (1, .int x1)] [] h Q
  refine mx_aload_n (pc := 0) 0 (mx_dd dd_X12_setsOption 0 (0, .aload_n 0, 1) rfl) rfl rfl ?_
  obtain ⟨g1, P⟩ := P
  refine mx_getI (pc := 1) mx_fl_X12_562 g1 rfl (mx_dd dd_X12_setsOption 1 (1, .getfield 562, 3) rfl) ?_
  refine mx_iconst (pc := 4) (v := (2 : Int32)) (mx_dd dd_X12_setsOption 2 (4, .iconst 2, 1) rfl) (by decide) ?_
  refine mx_icmp_ne (pc := 5) 21 (mx_dd dd_X12_setsOption 3 (5, .if_icmp .ne 16, 3) rfl) rfl (fun c5 => ?_) (fun c5 => ?_)
  · have P := P.1 c5
    refine mx_iconst (pc := 21) (v := (2 : Int32)) (mx_dd dd_X12_setsOption 11 (21, .iconst 2, 1) rfl) (by decide) ?_
    exact mx_ireturn (pc := 22) (mx_dd dd_X12_setsOption 12 (22, .ireturn, 1) rfl) rfl rfl P
  · have P := P.2 c5
    refine mx_aload_n (pc := 8) 0 (mx_dd dd_X12_setsOption 4 (8, .aload_n 0, 1) rfl) rfl rfl ?_
    refine mx_iconst (pc := 9) (v := (0 : Int32)) (mx_dd dd_X12_setsOption 5 (9, .iconst 0, 1) rfl) (by decide) ?_
    obtain ⟨g2, P⟩ := P
    refine mx_cVL (pc := 10) (Y := mY_X12_nameAt) (As := [.int _]) mx_ml_X12_624 mx_y_X12_nameAt rfl g1 (by decide) rfl (by decide) rfl (mx_dd dd_X12_setsOption 6 (10, .invokevirtual 624, 3) rfl) g2 (by decide) P (fun v1 h1 P => ?_)
    refine mx_aload_n (pc := 13) 0 (mx_dd dd_X12_setsOption 7 (13, .aload_n 0, 1) rfl) rfl rfl ?_
    obtain ⟨g3, P⟩ := P
    refine mx_getL (pc := 14) mx_fl_X12_651 g3 rfl (mx_dd dd_X12_setsOption 8 (14, .getfield 651, 3) rfl) ?_
    refine mx_lcmp (pc := 17) (mx_dd dd_X12_setsOption 9 (17, .lcmp, 1) rfl) ?_
    refine mx_if_eq (pc := 18) 23 (mx_dd dd_X12_setsOption 10 (18, .ifCond .eq 5, 3) rfl) rfl (fun c18 => ?_) (fun c18 => ?_)
    · have P := P.1 c18
      refine mx_aload_n (pc := 23) 0 (mx_dd dd_X12_setsOption 13 (23, .aload_n 0, 1) rfl) rfl rfl ?_
      refine mx_iconst (pc := 24) (v := (1 : Int32)) (mx_dd dd_X12_setsOption 14 (24, .iconst 1, 1) rfl) (by decide) ?_
      refine mx_cVL (pc := 25) (Y := mY_X12_nameAt) (As := [.int _]) mx_ml_X12_624 mx_y_X12_nameAt rfl g3 (by decide) rfl (by decide) rfl (mx_dd dd_X12_setsOption 15 (25, .invokevirtual 624, 3) rfl) g2 (by decide) P (fun v2 h2 P => ?_)
      refine mx_lstore_n (pc := 28) (mx_dd dd_X12_setsOption 16 (28, .lstore_n 2, 1) rfl) rfl (by decide) (lv' := [(2, _), (0, _), (1, _)]) rfl ?_
      refine mx_lload_n (pc := 29) 0 (mx_dd dd_X12_setsOption 17 (29, .lload_n 2, 1) rfl) rfl rfl ?_
      refine mx_aload_n (pc := 30) 1 (mx_dd dd_X12_setsOption 18 (30, .aload_n 0, 1) rfl) rfl rfl ?_
      obtain ⟨g4, P⟩ := P
      refine mx_getL (pc := 31) mx_fl_X12_654 g4 rfl (mx_dd dd_X12_setsOption 19 (31, .getfield 654, 3) rfl) ?_
      refine mx_lcmp (pc := 34) (mx_dd dd_X12_setsOption 20 (34, .lcmp, 1) rfl) ?_
      refine mx_if_eq (pc := 35) 49 (mx_dd dd_X12_setsOption 21 (35, .ifCond .eq 14, 3) rfl) rfl (fun c35 => ?_) (fun c35 => ?_)
      · have P := P.1 c35
        refine mx_sel [1, 2, 0] rfl ?_
        exact P
      · have P := P.2 c35
        refine mx_lload_n (pc := 38) 0 (mx_dd dd_X12_setsOption 22 (38, .lload_n 2, 1) rfl) rfl rfl ?_
        refine mx_aload_n (pc := 39) 1 (mx_dd dd_X12_setsOption 23 (39, .aload_n 0, 1) rfl) rfl rfl ?_
        refine mx_getL (pc := 40) mx_fl_X12_657 g4 rfl (mx_dd dd_X12_setsOption 24 (40, .getfield 657, 3) rfl) ?_
        refine mx_lcmp (pc := 43) (mx_dd dd_X12_setsOption 25 (43, .lcmp, 1) rfl) ?_
        refine mx_if_eq (pc := 44) 49 (mx_dd dd_X12_setsOption 26 (44, .ifCond .eq 5, 3) rfl) rfl (fun c44 => ?_) (fun c44 => ?_)
        · have P := P.1 c44
          refine mx_sel [1, 2, 0] rfl ?_
          exact P
        · have P := P.2 c44
          refine mx_iconst (pc := 47) (v := (2 : Int32)) (mx_dd dd_X12_setsOption 27 (47, .iconst 2, 1) rfl) (by decide) ?_
          exact mx_ireturn (pc := 48) (mx_dd dd_X12_setsOption 28 (48, .ireturn, 1) rfl) rfl rfl P
    · have P := P.2 c18
      refine mx_iconst (pc := 21) (v := (2 : Int32)) (mx_dd dd_X12_setsOption 11 (21, .iconst 2, 1) rfl) (by decide) ?_
      exact mx_ireturn (pc := 22) (mx_dd dd_X12_setsOption 12 (22, .ireturn, 1) rfl) rfl rfl P
