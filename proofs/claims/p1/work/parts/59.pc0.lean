/-! BLOCKS of loops whose head is the method's first instruction (PRINTED out of the blocks of the methods) -/
theorem b_X12_looks_0 {d : Nat} {h : mxH} {Q : mxRes → mxH → Prop} (x0 : Nat)
    (P : hpK h x0 = 12 ∧ (((hpI h x0 4) ≤ (hpI h x0 5) → mx_SX mY_X12_looks d 66 [(0, .ref x0)] [] h Q) ∧ (¬ (hpI h x0 4) ≤ (hpI h x0 5) → ∃ b1 : Nat, hpR h x0 1 = some b1 ∧ hpK h b1 = 13 ∧ vp_in (hpI h x0 5) (hpZ h b1) ∧ (((hpI h b1 (hpI h x0 5).toNatClampNeg) = (9 : Int32) → mx_SX mY_X12_looks d 53 [(0, .ref x0)] [] h Q) ∧ (¬ (hpI h b1 (hpI h x0 5).toNatClampNeg) = (9 : Int32) → (((hpI h b1 (hpI h x0 5).toNatClampNeg) = (10 : Int32) → mx_SX mY_X12_looks d 53 [(0, .ref x0)] [] h Q) ∧ (¬ (hpI h b1 (hpI h x0 5).toNatClampNeg) = (10 : Int32) → ((¬ (hpI h b1 (hpI h x0 5).toNatClampNeg) = (32 : Int32) → mx_SX mY_X12_looks d 66 [(0, .ref x0)] [] h Q) ∧ ((hpI h b1 (hpI h x0 5).toNatClampNeg) = (32 : Int32) → mx_SX mY_X12_looks d 53 [(0, .ref x0)] [] h Q))))))))) : mx_SX mY_X12_looks d 0 [(0, .ref x0)] [] h Q := by
  refine mx_aload_n (pc := 0) 0 (mx_dd dd_X12_looks_0 0 (0, .aload_n 0, 1) rfl) rfl rfl ?_
  obtain ⟨g1, P⟩ := P
  refine mx_getI (pc := 1) mx_fl_X12_27 g1 rfl (mx_dd dd_X12_looks_0 1 (1, .getfield 27, 3) rfl) ?_
  refine mx_aload_n (pc := 4) 0 (mx_dd dd_X12_looks_0 2 (4, .aload_n 0, 1) rfl) rfl rfl ?_
  refine mx_getI (pc := 5) mx_fl_X12_24 g1 rfl (mx_dd dd_X12_looks_0 3 (5, .getfield 24, 3) rfl) ?_
  refine mx_icmp_ge (pc := 8) 66 (mx_dd dd_X12_looks_0 4 (8, .if_icmp .ge 58, 3) rfl) rfl (fun c8 => ?_) (fun c8 => ?_)
  · have P := P.1 c8
    exact P
  · have P := P.2 c8
    refine mx_aload_n (pc := 11) 0 (mx_dd dd_X12_looks_0 5 (11, .aload_n 0, 1) rfl) rfl rfl ?_
    obtain ⟨b1, g2, P⟩ := P
    refine mx_getR (pc := 12) mx_fl_X12_14 g1 rfl g2 (mx_dd dd_X12_looks_0 6 (12, .getfield 14, 3) rfl) ?_
    refine mx_aload_n (pc := 15) 0 (mx_dd dd_X12_looks_0 7 (15, .aload_n 0, 1) rfl) rfl rfl ?_
    refine mx_getI (pc := 16) mx_fl_X12_27 g1 rfl (mx_dd dd_X12_looks_0 8 (16, .getfield 27, 3) rfl) ?_
    obtain ⟨g3, P⟩ := P
    obtain ⟨g4, P⟩ := P
    refine mx_bald (pc := 19) g3 g4 (mx_dd dd_X12_looks_0 9 (19, .baload, 1) rfl) ?_
    refine mx_bipush (pc := 20) (v := (9 : Int32)) (mx_dd dd_X12_looks_0 10 (20, .bipush 9, 2) rfl) (by decide) ?_
    refine mx_icmp_eq (pc := 22) 53 (mx_dd dd_X12_looks_0 11 (22, .if_icmp .eq 31, 3) rfl) rfl (fun c22 => ?_) (fun c22 => ?_)
    · have P := P.1 c22
      exact P
    · have P := P.2 c22
      refine mx_aload_n (pc := 25) 0 (mx_dd dd_X12_looks_0 12 (25, .aload_n 0, 1) rfl) rfl rfl ?_
      refine mx_getR (pc := 26) mx_fl_X12_14 g1 rfl g2 (mx_dd dd_X12_looks_0 13 (26, .getfield 14, 3) rfl) ?_
      refine mx_aload_n (pc := 29) 0 (mx_dd dd_X12_looks_0 14 (29, .aload_n 0, 1) rfl) rfl rfl ?_
      refine mx_getI (pc := 30) mx_fl_X12_27 g1 rfl (mx_dd dd_X12_looks_0 15 (30, .getfield 27, 3) rfl) ?_
      refine mx_bald (pc := 33) g3 g4 (mx_dd dd_X12_looks_0 16 (33, .baload, 1) rfl) ?_
      refine mx_bipush (pc := 34) (v := (10 : Int32)) (mx_dd dd_X12_looks_0 17 (34, .bipush 10, 2) rfl) (by decide) ?_
      refine mx_icmp_eq (pc := 36) 53 (mx_dd dd_X12_looks_0 18 (36, .if_icmp .eq 17, 3) rfl) rfl (fun c36 => ?_) (fun c36 => ?_)
      · have P := P.1 c36
        exact P
      · have P := P.2 c36
        refine mx_aload_n (pc := 39) 0 (mx_dd dd_X12_looks_0 19 (39, .aload_n 0, 1) rfl) rfl rfl ?_
        refine mx_getR (pc := 40) mx_fl_X12_14 g1 rfl g2 (mx_dd dd_X12_looks_0 20 (40, .getfield 14, 3) rfl) ?_
        refine mx_aload_n (pc := 43) 0 (mx_dd dd_X12_looks_0 21 (43, .aload_n 0, 1) rfl) rfl rfl ?_
        refine mx_getI (pc := 44) mx_fl_X12_27 g1 rfl (mx_dd dd_X12_looks_0 22 (44, .getfield 27, 3) rfl) ?_
        refine mx_bald (pc := 47) g3 g4 (mx_dd dd_X12_looks_0 23 (47, .baload, 1) rfl) ?_
        refine mx_bipush (pc := 48) (v := (32 : Int32)) (mx_dd dd_X12_looks_0 24 (48, .bipush 32, 2) rfl) (by decide) ?_
        refine mx_icmp_ne (pc := 50) 66 (mx_dd dd_X12_looks_0 25 (50, .if_icmp .ne 16, 3) rfl) rfl (fun c50 => ?_) (fun c50 => ?_)
        · have P := P.1 c50
          exact P
        · have P := P.2 c50
          exact P
theorem b_X12_closesPipe_0 {d : Nat} {h : mxH} {Q : mxRes → mxH → Prop} (x0 : Nat) (x1 : Int32)
    (P : hpK h x0 = 12 ∧ ∃ b1 : Nat, hpR h x0 61 = some b1 ∧ hpK h b1 = 14 ∧ vp_in x1 (hpZ h b1) ∧ (((hpI h b1 x1.toNatClampNeg) = (-1 : Int32) → ∃ b2 : Nat, hpR h x0 63 = some b2 ∧ hpK h b2 = 16 ∧ vp_in x1 (hpZ h b2) ∧ ∀ h1 : mxH, h1 = hsI h b2 x1.toNatClampNeg ((0 : Int32) &&& 1) → Q (.inl none) h1) ∧ (¬ (hpI h b1 x1.toNatClampNeg) = (-1 : Int32) → 1 ≤ d ∧ mx_SM mY_X12_takesFirst (d - 1) [.ref x0, .int x1] h (mx_KI (fun v1 h2 => mx_SX mY_X12_closesPipe d 0 [(0, .ref x0), (1, .int x1)] [] h2 Q) (mx_XX mY_X12_closesPipe Q))))) : mx_SX mY_X12_closesPipe d 0 [(0, .ref x0), (1, .int x1)] [] h Q := by
  refine mx_aload_n (pc := 0) 0 (mx_dd dd_X12_closesPipe 0 (0, .aload_n 0, 1) rfl) rfl rfl ?_
  obtain ⟨g1, P⟩ := P
  obtain ⟨b1, g2, P⟩ := P
  refine mx_getR (pc := 1) mx_fl_X12_325 g1 rfl g2 (mx_dd dd_X12_closesPipe 1 (1, .getfield 325, 3) rfl) ?_
  refine mx_iload_n (pc := 4) 1 (mx_dd dd_X12_closesPipe 2 (4, .iload_n 1, 1) rfl) rfl rfl ?_
  obtain ⟨g3, P⟩ := P
  obtain ⟨g4, P⟩ := P
  refine mx_iald (pc := 5) g3 g4 (mx_dd dd_X12_closesPipe 3 (5, .iaload, 1) rfl) ?_
  refine mx_iconst (pc := 6) (v := (-1 : Int32)) (mx_dd dd_X12_closesPipe 4 (6, .iconst (-1), 1) rfl) (by decide) ?_
  refine mx_icmp_eq (pc := 7) 19 (mx_dd dd_X12_closesPipe 5 (7, .if_icmp .eq 12, 3) rfl) rfl (fun c7 => ?_) (fun c7 => ?_)
  · have P := P.1 c7
    refine mx_aload_n (pc := 19) 0 (mx_dd dd_X12_closesPipe 11 (19, .aload_n 0, 1) rfl) rfl rfl ?_
    obtain ⟨b2, g5, P⟩ := P
    refine mx_getR (pc := 20) mx_fl_X12_395 g1 rfl g5 (mx_dd dd_X12_closesPipe 12 (20, .getfield 395, 3) rfl) ?_
    refine mx_iload_n (pc := 23) 1 (mx_dd dd_X12_closesPipe 13 (23, .iload_n 1, 1) rfl) rfl rfl ?_
    refine mx_iconst (pc := 24) (v := (0 : Int32)) (mx_dd dd_X12_closesPipe 14 (24, .iconst 0, 1) rfl) (by decide) ?_
    obtain ⟨g6, P⟩ := P
    obtain ⟨g7, P⟩ := P
    refine mx_zast (pc := 25) g6 g7 (mx_dd dd_X12_closesPipe 15 (25, .bastore, 1) rfl) ?_
    have P := P _ rfl
    exact mx_return (pc := 26) (mx_dd dd_X12_closesPipe 16 (26, .return_, 1) rfl) rfl P
  · have P := P.2 c7
    refine mx_aload_n (pc := 10) 0 (mx_dd dd_X12_closesPipe 6 (10, .aload_n 0, 1) rfl) rfl rfl ?_
    refine mx_iload_n (pc := 11) 1 (mx_dd dd_X12_closesPipe 7 (11, .iload_n 1, 1) rfl) rfl rfl ?_
    obtain ⟨g8, P⟩ := P
    refine mx_cVI (pc := 12) (Y := mY_X12_takesFirst) (As := [.int _]) mx_ml_X12_404 mx_y_X12_takesFirst rfl g1 (by decide) rfl (by decide) rfl (mx_dd dd_X12_closesPipe 8 (12, .invokevirtual 404, 3) rfl) g8 (by decide) P (fun v1 h2 P => ?_)
    refine mx_istore_n (pc := 15) (mx_dd dd_X12_closesPipe 9 (15, .istore_n 2, 1) rfl) rfl (by decide) (lv' := [(2, _), (0, _), (1, _)]) rfl ?_
    refine mx_goto (pc := 16) 0 (mx_dd dd_X12_closesPipe 10 (16, .goto (-16), 3) rfl) rfl ?_
    refine mx_sel [1, 2] rfl ?_
    exact P
