/-! THE LAW'S OWN BODY: its blocks (PRINTED by wip/whole/genblocks.py) -/
abbrev mY_L_law : mxY := (x, cL_law, 8, ret, [])
section MXLW
variable {y Y : mxY} {d pc index n : Nat} {lv : List (Nat × Value)} {As st st0 : List Value} {h : mxH} {Q : mxRes → mxH → Prop}
theorem mx_cSWI {P : Int32 → mxH → Prop} (hl : Cond.methodLink y.1.cls index Y.1 ∈ mx_tbl) (hY : mx_YS Y n) (hh : Y.2.2.2.2 ≠ []) (hn : As.length = n) (hw : (st.map fun v => v.category).sum ≤ 8) (hst : st0 = As.reverse ++ st) (hd : decode y.2.1 pc = .ok (.invokestatic index, 3)) (hdd : 1 ≤ d) (hmL : Y.2.2.1 ≤ 22)
    (M : mx_SM Y (d - 1) As h (mx_KI P fun _ _ => False)) (kk : ∀ v h1, P v h1 → mx_SX y d (pc + 3) lv (.int v :: st) h1 Q) : mx_SX y d pc lv st0 h Q :=
  mx_callSW (P := fun o h1 => ∃ v, o = some (.int v) ∧ P v h1) hl hY hh hn hw hst hd (by omega) hmL (M.mono fun r h1 q => by
    rcases q with ⟨v, q1, q2⟩ | ⟨E, _, q⟩
    · exact ⟨_, q1, v, rfl, q2⟩
    · exact q.elim) (fun o h1 q => by
    obtain ⟨v, rfl, q2⟩ := q
    exact kk v h1 q2)
end MXLW
theorem b_L_law {d : Nat} {h : mxH} {Q : mxRes → mxH → Prop} 
    (P : ∀ (b1 : Nat) (h1 : mxH), b1 = hpN h → h1 = hnw h 11 0 12 → 1 ≤ d ∧ mx_SM mY_X11_init (d - 1) [.ref b1] h1 (mx_KV (fun h2 => ∀ (b2 : Nat) (h3 : mxH), b2 = hpN h2 → h3 = hnw h2 12 0 85 → mx_SM mY_X12_init (d - 1) [.ref b2] h3 (mx_KV (fun h4 => ∀ (b3 : Nat) (h5 : mxH), b3 = hpN h4 → h5 = hnw h4 15 1 1 → mx_SX mY_L_law d 23 [(0, .ref 0), (1, .ref b1), (2, .ref b2), (3, .ref b3), (4, .int (0 : Int32))] [] h5 Q) fun _ _ => False)) fun _ _ => False)) : mx_SX mY_L_law d 0 [(0, .ref 0)] [] h Q := by
  refine mx_new (pc := 0) mx_nw_L_8 (mx_nofd _) (mx_dd dd_L_law_0 0 (0, .new 8, 3) rfl) ?_
  have P := P _ _ rfl rfl
  refine mx_dup (pc := 3) (mx_dd dd_L_law_0 1 (3, .dup, 1) rfl) rfl ?_
  obtain ⟨g1, P⟩ := P
  refine mx_cI (pc := 4) (Y := mY_X11_init) (As := []) mx_ml_L_46 mx_y_X11_init rfl rfl (by simp [Value.category]) rfl (mx_dd dd_L_law_0 2 (4, .invokespecial 46, 3) rfl) g1 (by decide) P (fun h2 P => ?_)
  refine mx_astore_n (pc := 7) (mx_dd dd_L_law_0 3 (7, .astore_n 1, 1) rfl) rfl (by decide) (lv' := [(1, _), (0, _)]) rfl ?_
  refine mx_new (pc := 8) mx_nw_L_47 (mx_nofd _) (mx_dd dd_L_law_0 4 (8, .new 47, 3) rfl) ?_
  have P := P _ _ rfl rfl
  refine mx_dup (pc := 11) (mx_dd dd_L_law_0 5 (11, .dup, 1) rfl) rfl ?_
  refine mx_cI (pc := 12) (Y := mY_X12_init) (As := []) mx_ml_L_49 mx_y_X12_init rfl rfl (by simp [Value.category]) rfl (mx_dd dd_L_law_0 6 (12, .invokespecial 49, 3) rfl) g1 (by decide) P (fun h4 P => ?_)
  refine mx_astore_n (pc := 15) (mx_dd dd_L_law_0 7 (15, .astore_n 2, 1) rfl) rfl (by decide) (lv' := [(2, _), (1, _), (0, _)]) rfl ?_
  refine mx_iconst (pc := 16) (v := (1 : Int32)) (mx_dd dd_L_law_0 8 (16, .iconst 1, 1) rfl) (by decide) ?_
  refine mx_newa (pc := 17) (N := 1) (kd := 15) (by decide) rfl mx_ac_15 (by decide) (by decide) (by decide) (mx_dd dd_L_law_0 9 (17, .newarray .long, 2) rfl) ?_
  have P := P _ _ rfl rfl
  refine mx_astore_n (pc := 19) (mx_dd dd_L_law_0 10 (19, .astore_n 3, 1) rfl) rfl (by decide) (lv' := [(3, _), (2, _), (1, _), (0, _)]) rfl ?_
  refine mx_iconst (pc := 20) (v := (0 : Int32)) (mx_dd dd_L_law_0 11 (20, .iconst 0, 1) rfl) (by decide) ?_
  refine mx_istore (pc := 21) (mx_dd dd_L_law_0 12 (21, .istore 4, 2) rfl) (by decide) (lv' := [(4, _), (3, _), (2, _), (1, _), (0, _)]) rfl ?_
  refine mx_sel [4, 3, 2, 1, 0] rfl ?_
  exact P
theorem b_L_law_23 {d : Nat} {h : mxH} {Q : mxRes → mxH → Prop} (x1 : Nat) (x2 : Nat) (x3 : Nat) (x4 : Int32)
    (P : ((((nI (hpZ h 0)) - (6 : Int32)) < x4 → Q (.inl (some (.int (1 : Int32)))) h) ∧ (¬ ((nI (hpZ h 0)) - (6 : Int32)) < x4 → vp_in x4 (hpZ h 0) ∧ ((((hpI h 0 x4.toNatClampNeg) &&& (63 : Int32)).toInt < 0 ∨ 35 < ((hpI h 0 x4.toNatClampNeg) &&& (63 : Int32)).toInt → mx_SX mY_L_law d 1326 [(0, .ref 0), (1, .ref x1), (2, .ref x2), (3, .ref x3), (4, .int x4)] [] h Q) ∧ (((hpI h 0 x4.toNatClampNeg) &&& (63 : Int32)).toInt = 0 → mx_SX mY_L_law d 200 [(0, .ref 0), (1, .ref x1), (2, .ref x2), (3, .ref x3), (4, .int x4)] [] h Q) ∧ (((hpI h 0 x4.toNatClampNeg) &&& (63 : Int32)).toInt = 1 → mx_SX mY_L_law d 273 [(0, .ref 0), (1, .ref x1), (2, .ref x2), (3, .ref x3), (4, .int x4)] [] h Q) ∧ (((hpI h 0 x4.toNatClampNeg) &&& (63 : Int32)).toInt = 2 → mx_SX mY_L_law d 298 [(0, .ref 0), (1, .ref x1), (2, .ref x2), (3, .ref x3), (4, .int x4)] [] h Q) ∧ (((hpI h 0 x4.toNatClampNeg) &&& (63 : Int32)).toInt = 3 → mx_SX mY_L_law d 342 [(0, .ref 0), (1, .ref x1), (2, .ref x2), (3, .ref x3), (4, .int x4)] [] h Q) ∧ (((hpI h 0 x4.toNatClampNeg) &&& (63 : Int32)).toInt = 4 → mx_SX mY_L_law d 355 [(0, .ref 0), (1, .ref x1), (2, .ref x2), (3, .ref x3), (4, .int x4)] [] h Q) ∧ (((hpI h 0 x4.toNatClampNeg) &&& (63 : Int32)).toInt = 5 → mx_SX mY_L_law d 368 [(0, .ref 0), (1, .ref x1), (2, .ref x2), (3, .ref x3), (4, .int x4)] [] h Q) ∧ (((hpI h 0 x4.toNatClampNeg) &&& (63 : Int32)).toInt = 6 → mx_SX mY_L_law d 412 [(0, .ref 0), (1, .ref x1), (2, .ref x2), (3, .ref x3), (4, .int x4)] [] h Q) ∧ (((hpI h 0 x4.toNatClampNeg) &&& (63 : Int32)).toInt = 7 → mx_SX mY_L_law d 425 [(0, .ref 0), (1, .ref x1), (2, .ref x2), (3, .ref x3), (4, .int x4)] [] h Q) ∧ (((hpI h 0 x4.toNatClampNeg) &&& (63 : Int32)).toInt = 8 → mx_SX mY_L_law d 438 [(0, .ref 0), (1, .ref x1), (2, .ref x2), (3, .ref x3), (4, .int x4)] [] h Q) ∧ (((hpI h 0 x4.toNatClampNeg) &&& (63 : Int32)).toInt = 9 → mx_SX mY_L_law d 451 [(0, .ref 0), (1, .ref x1), (2, .ref x2), (3, .ref x3), (4, .int x4)] [] h Q) ∧ (((hpI h 0 x4.toNatClampNeg) &&& (63 : Int32)).toInt = 10 → mx_SX mY_L_law d 464 [(0, .ref 0), (1, .ref x1), (2, .ref x2), (3, .ref x3), (4, .int x4)] [] h Q) ∧ (((hpI h 0 x4.toNatClampNeg) &&& (63 : Int32)).toInt = 11 → mx_SX mY_L_law d 477 [(0, .ref 0), (1, .ref x1), (2, .ref x2), (3, .ref x3), (4, .int x4)] [] h Q) ∧ (((hpI h 0 x4.toNatClampNeg) &&& (63 : Int32)).toInt = 12 → mx_SX mY_L_law d 490 [(0, .ref 0), (1, .ref x1), (2, .ref x2), (3, .ref x3), (4, .int x4)] [] h Q) ∧ (((hpI h 0 x4.toNatClampNeg) &&& (63 : Int32)).toInt = 13 → mx_SX mY_L_law d 515 [(0, .ref 0), (1, .ref x1), (2, .ref x2), (3, .ref x3), (4, .int x4)] [] h Q) ∧ (((hpI h 0 x4.toNatClampNeg) &&& (63 : Int32)).toInt = 14 → mx_SX mY_L_law d 528 [(0, .ref 0), (1, .ref x1), (2, .ref x2), (3, .ref x3), (4, .int x4)] [] h Q) ∧ (((hpI h 0 x4.toNatClampNeg) &&& (63 : Int32)).toInt = 15 → mx_SX mY_L_law d 541 [(0, .ref 0), (1, .ref x1), (2, .ref x2), (3, .ref x3), (4, .int x4)] [] h Q) ∧ (((hpI h 0 x4.toNatClampNeg) &&& (63 : Int32)).toInt = 16 → mx_SX mY_L_law d 597 [(0, .ref 0), (1, .ref x1), (2, .ref x2), (3, .ref x3), (4, .int x4)] [] h Q) ∧ (((hpI h 0 x4.toNatClampNeg) &&& (63 : Int32)).toInt = 17 → mx_SX mY_L_law d 610 [(0, .ref 0), (1, .ref x1), (2, .ref x2), (3, .ref x3), (4, .int x4)] [] h Q) ∧ (((hpI h 0 x4.toNatClampNeg) &&& (63 : Int32)).toInt = 18 → mx_SX mY_L_law d 667 [(0, .ref 0), (1, .ref x1), (2, .ref x2), (3, .ref x3), (4, .int x4)] [] h Q) ∧ (((hpI h 0 x4.toNatClampNeg) &&& (63 : Int32)).toInt = 19 → mx_SX mY_L_law d 680 [(0, .ref 0), (1, .ref x1), (2, .ref x2), (3, .ref x3), (4, .int x4)] [] h Q) ∧ (((hpI h 0 x4.toNatClampNeg) &&& (63 : Int32)).toInt = 20 → mx_SX mY_L_law d 737 [(0, .ref 0), (1, .ref x1), (2, .ref x2), (3, .ref x3), (4, .int x4)] [] h Q) ∧ (((hpI h 0 x4.toNatClampNeg) &&& (63 : Int32)).toInt = 21 → mx_SX mY_L_law d 792 [(0, .ref 0), (1, .ref x1), (2, .ref x2), (3, .ref x3), (4, .int x4)] [] h Q) ∧ (((hpI h 0 x4.toNatClampNeg) &&& (63 : Int32)).toInt = 22 → mx_SX mY_L_law d 805 [(0, .ref 0), (1, .ref x1), (2, .ref x2), (3, .ref x3), (4, .int x4)] [] h Q) ∧ (((hpI h 0 x4.toNatClampNeg) &&& (63 : Int32)).toInt = 23 → mx_SX mY_L_law d 818 [(0, .ref 0), (1, .ref x1), (2, .ref x2), (3, .ref x3), (4, .int x4)] [] h Q) ∧ (((hpI h 0 x4.toNatClampNeg) &&& (63 : Int32)).toInt = 24 → mx_SX mY_L_law d 875 [(0, .ref 0), (1, .ref x1), (2, .ref x2), (3, .ref x3), (4, .int x4)] [] h Q) ∧ (((hpI h 0 x4.toNatClampNeg) &&& (63 : Int32)).toInt = 25 → mx_SX mY_L_law d 931 [(0, .ref 0), (1, .ref x1), (2, .ref x2), (3, .ref x3), (4, .int x4)] [] h Q) ∧ (((hpI h 0 x4.toNatClampNeg) &&& (63 : Int32)).toInt = 26 → mx_SX mY_L_law d 944 [(0, .ref 0), (1, .ref x1), (2, .ref x2), (3, .ref x3), (4, .int x4)] [] h Q) ∧ (((hpI h 0 x4.toNatClampNeg) &&& (63 : Int32)).toInt = 27 → mx_SX mY_L_law d 957 [(0, .ref 0), (1, .ref x1), (2, .ref x2), (3, .ref x3), (4, .int x4)] [] h Q) ∧ (((hpI h 0 x4.toNatClampNeg) &&& (63 : Int32)).toInt = 28 → mx_SX mY_L_law d 970 [(0, .ref 0), (1, .ref x1), (2, .ref x2), (3, .ref x3), (4, .int x4)] [] h Q) ∧ (((hpI h 0 x4.toNatClampNeg) &&& (63 : Int32)).toInt = 29 → mx_SX mY_L_law d 1038 [(0, .ref 0), (1, .ref x1), (2, .ref x2), (3, .ref x3), (4, .int x4)] [] h Q) ∧ (((hpI h 0 x4.toNatClampNeg) &&& (63 : Int32)).toInt = 30 → mx_SX mY_L_law d 1051 [(0, .ref 0), (1, .ref x1), (2, .ref x2), (3, .ref x3), (4, .int x4)] [] h Q) ∧ (((hpI h 0 x4.toNatClampNeg) &&& (63 : Int32)).toInt = 31 → mx_SX mY_L_law d 1119 [(0, .ref 0), (1, .ref x1), (2, .ref x2), (3, .ref x3), (4, .int x4)] [] h Q) ∧ (((hpI h 0 x4.toNatClampNeg) &&& (63 : Int32)).toInt = 32 → mx_SX mY_L_law d 1175 [(0, .ref 0), (1, .ref x1), (2, .ref x2), (3, .ref x3), (4, .int x4)] [] h Q) ∧ (((hpI h 0 x4.toNatClampNeg) &&& (63 : Int32)).toInt = 33 → mx_SX mY_L_law d 1232 [(0, .ref 0), (1, .ref x1), (2, .ref x2), (3, .ref x3), (4, .int x4)] [] h Q) ∧ (((hpI h 0 x4.toNatClampNeg) &&& (63 : Int32)).toInt = 34 → mx_SX mY_L_law d 1245 [(0, .ref 0), (1, .ref x1), (2, .ref x2), (3, .ref x3), (4, .int x4)] [] h Q) ∧ (((hpI h 0 x4.toNatClampNeg) &&& (63 : Int32)).toInt = 35 → mx_SX mY_L_law d 1301 [(0, .ref 0), (1, .ref x1), (2, .ref x2), (3, .ref x3), (4, .int x4)] [] h Q))))) : mx_SX mY_L_law d 23 [(0, .ref 0), (1, .ref x1), (2, .ref x2), (3, .ref x3), (4, .int x4)] [] h Q := by
  refine mx_iload (pc := 23) 4 (mx_dd dd_L_law_0 13 (23, .iload 4, 2) rfl) rfl ?_
  refine mx_aload_n (pc := 25) 0 (mx_dd dd_L_law_0 14 (25, .aload_n 0, 1) rfl) rfl rfl ?_
  refine mx_xlen (pc := 26) (by decide) (mx_dd dd_L_law_0 15 (26, .arraylength, 1) rfl) ?_
  refine mx_bipush (pc := 27) (v := (6 : Int32)) (mx_dd dd_L_law_0 16 (27, .bipush 6, 2) rfl) (by decide) ?_
  refine mx_isub (pc := 29) (mx_dd dd_L_law_0 17 (29, .isub, 1) rfl) ?_
  refine mx_icmp_gt (pc := 30) 1332 (mx_dd dd_L_law_0 18 (30, .if_icmp .gt 1302, 3) rfl) rfl (fun c30 => ?_) (fun c30 => ?_)
  · have P := P.1 c30
    refine mx_iconst (pc := 1332) (v := (1 : Int32)) (mx_dd dd_L_law_18 26 (1332, .iconst 1, 1) rfl) (by decide) ?_
    exact mx_ireturn (pc := 1333) (mx_dd dd_L_law_18 27 (1333, .ireturn, 1) rfl) rfl rfl P
  · have P := P.2 c30
    refine mx_aload_n (pc := 33) 0 (mx_dd dd_L_law_0 19 (33, .aload_n 0, 1) rfl) rfl rfl ?_
    refine mx_iload (pc := 34) 4 (mx_dd dd_L_law_0 20 (34, .iload 4, 2) rfl) rfl ?_
    obtain ⟨g1, P⟩ := P
    refine mx_xiald (pc := 36) g1 (mx_dd dd_L_law_0 21 (36, .iaload, 1) rfl) ?_
    refine mx_bipush (pc := 37) (v := (63 : Int32)) (mx_dd dd_L_law_0 22 (37, .bipush 63, 2) rfl) (by decide) ?_
    refine mx_iand (pc := 39) (mx_dd dd_L_law_0 23 (39, .iand, 1) rfl) ?_
    refine mx_tsw (pc := 40) 1326 (mx_dd dd_L_law_0 24 (40, .tableswitch 1286 0 35 #[160, 233, 258, 302, 315, 328, 372, 385, 398, 411, 424, 437, 450, 475, 488, 501, 557, 570, 627, 640, 697, 752, 765, 778, 835, 891, 904, 917, 930, 998, 1011, 1079, 1135, 1192, 1205, 1261], 160) rfl) rfl [200, 273, 298, 342, 355, 368, 412, 425, 438, 451, 464, 477, 490, 515, 528, 541, 597, 610, 667, 680, 737, 792, 805, 818, 875, 931, 944, 957, 970, 1038, 1051, 1119, 1175, 1232, 1245, 1301] rfl rfl (fun c40 => ?_) ?_
    · have P := P.1 c40
      exact P
    · intro j t hj hx
      have hj9 : j < 36 := (List.getElem?_eq_some_iff.mp hj).1
      have hj8 : j = 0 ∨ j = 1 ∨ j = 2 ∨ j = 3 ∨ j = 4 ∨ j = 5 ∨ j = 6 ∨ j = 7 ∨ j = 8 ∨ j = 9 ∨ j = 10 ∨ j = 11 ∨ j = 12 ∨ j = 13 ∨ j = 14 ∨ j = 15 ∨ j = 16 ∨ j = 17 ∨ j = 18 ∨ j = 19 ∨ j = 20 ∨ j = 21 ∨ j = 22 ∨ j = 23 ∨ j = 24 ∨ j = 25 ∨ j = 26 ∨ j = 27 ∨ j = 28 ∨ j = 29 ∨ j = 30 ∨ j = 31 ∨ j = 32 ∨ j = 33 ∨ j = 34 ∨ j = 35 := by omega
      rcases hj8 with rfl | rfl | rfl | rfl | rfl | rfl | rfl | rfl | rfl | rfl | rfl | rfl | rfl | rfl | rfl | rfl | rfl | rfl | rfl | rfl | rfl | rfl | rfl | rfl | rfl | rfl | rfl | rfl | rfl | rfl | rfl | rfl | rfl | rfl | rfl | rfl
      · cases hj
        have P := P.2.1 (by omega)
        exact P
      · cases hj
        have P := P.2.2.1 (by omega)
        exact P
      · cases hj
        have P := P.2.2.2.1 (by omega)
        exact P
      · cases hj
        have P := P.2.2.2.2.1 (by omega)
        exact P
      · cases hj
        have P := P.2.2.2.2.2.1 (by omega)
        exact P
      · cases hj
        have P := P.2.2.2.2.2.2.1 (by omega)
        exact P
      · cases hj
        have P := P.2.2.2.2.2.2.2.1 (by omega)
        exact P
      · cases hj
        have P := P.2.2.2.2.2.2.2.2.1 (by omega)
        exact P
      · cases hj
        have P := P.2.2.2.2.2.2.2.2.2.1 (by omega)
        exact P
      · cases hj
        have P := P.2.2.2.2.2.2.2.2.2.2.1 (by omega)
        exact P
      · cases hj
        have P := P.2.2.2.2.2.2.2.2.2.2.2.1 (by omega)
        exact P
      · cases hj
        have P := P.2.2.2.2.2.2.2.2.2.2.2.2.1 (by omega)
        exact P
      · cases hj
        have P := P.2.2.2.2.2.2.2.2.2.2.2.2.2.1 (by omega)
        exact P
      · cases hj
        have P := P.2.2.2.2.2.2.2.2.2.2.2.2.2.2.1 (by omega)
        exact P
      · cases hj
        have P := P.2.2.2.2.2.2.2.2.2.2.2.2.2.2.2.1 (by omega)
        exact P
      · cases hj
        have P := P.2.2.2.2.2.2.2.2.2.2.2.2.2.2.2.2.1 (by omega)
        exact P
      · cases hj
        have P := P.2.2.2.2.2.2.2.2.2.2.2.2.2.2.2.2.2.1 (by omega)
        exact P
      · cases hj
        have P := P.2.2.2.2.2.2.2.2.2.2.2.2.2.2.2.2.2.2.1 (by omega)
        exact P
      · cases hj
        have P := P.2.2.2.2.2.2.2.2.2.2.2.2.2.2.2.2.2.2.2.1 (by omega)
        exact P
      · cases hj
        have P := P.2.2.2.2.2.2.2.2.2.2.2.2.2.2.2.2.2.2.2.2.1 (by omega)
        exact P
      · cases hj
        have P := P.2.2.2.2.2.2.2.2.2.2.2.2.2.2.2.2.2.2.2.2.2.1 (by omega)
        exact P
      · cases hj
        have P := P.2.2.2.2.2.2.2.2.2.2.2.2.2.2.2.2.2.2.2.2.2.2.1 (by omega)
        exact P
      · cases hj
        have P := P.2.2.2.2.2.2.2.2.2.2.2.2.2.2.2.2.2.2.2.2.2.2.2.1 (by omega)
        exact P
      · cases hj
        have P := P.2.2.2.2.2.2.2.2.2.2.2.2.2.2.2.2.2.2.2.2.2.2.2.2.1 (by omega)
        exact P
      · cases hj
        have P := P.2.2.2.2.2.2.2.2.2.2.2.2.2.2.2.2.2.2.2.2.2.2.2.2.2.1 (by omega)
        exact P
      · cases hj
        have P := P.2.2.2.2.2.2.2.2.2.2.2.2.2.2.2.2.2.2.2.2.2.2.2.2.2.2.1 (by omega)
        exact P
      · cases hj
        have P := P.2.2.2.2.2.2.2.2.2.2.2.2.2.2.2.2.2.2.2.2.2.2.2.2.2.2.2.1 (by omega)
        exact P
      · cases hj
        have P := P.2.2.2.2.2.2.2.2.2.2.2.2.2.2.2.2.2.2.2.2.2.2.2.2.2.2.2.2.1 (by omega)
        exact P
      · cases hj
        have P := P.2.2.2.2.2.2.2.2.2.2.2.2.2.2.2.2.2.2.2.2.2.2.2.2.2.2.2.2.2.1 (by omega)
        exact P
      · cases hj
        have P := P.2.2.2.2.2.2.2.2.2.2.2.2.2.2.2.2.2.2.2.2.2.2.2.2.2.2.2.2.2.2.1 (by omega)
        exact P
      · cases hj
        have P := P.2.2.2.2.2.2.2.2.2.2.2.2.2.2.2.2.2.2.2.2.2.2.2.2.2.2.2.2.2.2.2.1 (by omega)
        exact P
      · cases hj
        have P := P.2.2.2.2.2.2.2.2.2.2.2.2.2.2.2.2.2.2.2.2.2.2.2.2.2.2.2.2.2.2.2.2.1 (by omega)
        exact P
      · cases hj
        have P := P.2.2.2.2.2.2.2.2.2.2.2.2.2.2.2.2.2.2.2.2.2.2.2.2.2.2.2.2.2.2.2.2.2.1 (by omega)
        exact P
      · cases hj
        have P := P.2.2.2.2.2.2.2.2.2.2.2.2.2.2.2.2.2.2.2.2.2.2.2.2.2.2.2.2.2.2.2.2.2.2.1 (by omega)
        exact P
      · cases hj
        have P := P.2.2.2.2.2.2.2.2.2.2.2.2.2.2.2.2.2.2.2.2.2.2.2.2.2.2.2.2.2.2.2.2.2.2.2.1 (by omega)
        exact P
      · cases hj
        have P := P.2.2.2.2.2.2.2.2.2.2.2.2.2.2.2.2.2.2.2.2.2.2.2.2.2.2.2.2.2.2.2.2.2.2.2.2 (by omega)
        exact P
theorem b_L_law_200 {d : Nat} {h : mxH} {Q : mxRes → mxH → Prop} (x1 : Nat) (x2 : Nat) (x3 : Nat) (x4 : Int32)
    (P : vp_in (x4 + (1 : Int32)) (hpZ h 0) ∧ vp_in (x4 + (2 : Int32)) (hpZ h 0) ∧ vp_in (x4 + (3 : Int32)) (hpZ h 0) ∧ vp_in (x4 + (4 : Int32)) (hpZ h 0) ∧ vp_in (x4 + (5 : Int32)) (hpZ h 0) ∧ 1 ≤ d ∧ hpK h x1 = 11 ∧ mx_SM mY_X11_append (d - 1) [.ref x1, .int (hpI h 0 (x4 + (1 : Int32)).toNatClampNeg), .int (hpI h 0 (x4 + (2 : Int32)).toNatClampNeg), .int (hpI h 0 (x4 + (3 : Int32)).toNatClampNeg), .int (hpI h 0 (x4 + (4 : Int32)).toNatClampNeg), .int (hpI h 0 (x4 + (5 : Int32)).toNatClampNeg)] h (mx_KI (fun v1 h1 => vp_in (x4 + (1 : Int32)) (hpZ h1 0) ∧ vp_in (x4 + (2 : Int32)) (hpZ h1 0) ∧ vp_in (x4 + (3 : Int32)) (hpZ h1 0) ∧ vp_in (x4 + (4 : Int32)) (hpZ h1 0) ∧ vp_in (x4 + (5 : Int32)) (hpZ h1 0) ∧ hpK h1 x2 = 12 ∧ mx_SM mY_X12_append (d - 1) [.ref x2, .int (hpI h1 0 (x4 + (1 : Int32)).toNatClampNeg), .int (hpI h1 0 (x4 + (2 : Int32)).toNatClampNeg), .int (hpI h1 0 (x4 + (3 : Int32)).toNatClampNeg), .int (hpI h1 0 (x4 + (4 : Int32)).toNatClampNeg), .int (hpI h1 0 (x4 + (5 : Int32)).toNatClampNeg)] h1 (mx_KI (fun v2 h2 => ((v1 = v2 → mx_SX mY_L_law d 1326 [(0, .ref 0), (1, .ref x1), (2, .ref x2), (3, .ref x3), (4, .int x4)] [] h2 Q) ∧ (¬ v1 = v2 → Q (.inl (some (.int (0 : Int32)))) h2))) (mx_XX mY_L_law Q))) (mx_XX mY_L_law Q))) : mx_SX mY_L_law d 200 [(0, .ref 0), (1, .ref x1), (2, .ref x2), (3, .ref x3), (4, .int x4)] [] h Q := by
  refine mx_aload_n (pc := 200) 1 (mx_dd dd_L_law_0 25 (200, .aload_n 1, 1) rfl) rfl rfl ?_
  refine mx_aload_n (pc := 201) 0 (mx_dd dd_L_law_0 26 (201, .aload_n 0, 1) rfl) rfl rfl ?_
  refine mx_iload (pc := 202) 4 (mx_dd dd_L_law_0 27 (202, .iload 4, 2) rfl) rfl ?_
  refine mx_iconst (pc := 204) (v := (1 : Int32)) (mx_dd dd_L_law_0 28 (204, .iconst 1, 1) rfl) (by decide) ?_
  refine mx_iadd (pc := 205) (mx_dd dd_L_law_0 29 (205, .iadd, 1) rfl) ?_
  obtain ⟨g1, P⟩ := P
  refine mx_xiald (pc := 206) g1 (mx_dd dd_L_law_0 30 (206, .iaload, 1) rfl) ?_
  refine mx_aload_n (pc := 207) 0 (mx_dd dd_L_law_0 31 (207, .aload_n 0, 1) rfl) rfl rfl ?_
  refine mx_iload (pc := 208) 4 (mx_dd dd_L_law_0 32 (208, .iload 4, 2) rfl) rfl ?_
  refine mx_iconst (pc := 210) (v := (2 : Int32)) (mx_dd dd_L_law_0 33 (210, .iconst 2, 1) rfl) (by decide) ?_
  refine mx_iadd (pc := 211) (mx_dd dd_L_law_0 34 (211, .iadd, 1) rfl) ?_
  obtain ⟨g2, P⟩ := P
  refine mx_xiald (pc := 212) g2 (mx_dd dd_L_law_0 35 (212, .iaload, 1) rfl) ?_
  refine mx_aload_n (pc := 213) 0 (mx_dd dd_L_law_0 36 (213, .aload_n 0, 1) rfl) rfl rfl ?_
  refine mx_iload (pc := 214) 4 (mx_dd dd_L_law_0 37 (214, .iload 4, 2) rfl) rfl ?_
  refine mx_iconst (pc := 216) (v := (3 : Int32)) (mx_dd dd_L_law_0 38 (216, .iconst 3, 1) rfl) (by decide) ?_
  refine mx_iadd (pc := 217) (mx_dd dd_L_law_0 39 (217, .iadd, 1) rfl) ?_
  obtain ⟨g3, P⟩ := P
  refine mx_xiald (pc := 218) g3 (mx_dd dd_L_law_1 0 (218, .iaload, 1) rfl) ?_
  refine mx_aload_n (pc := 219) 0 (mx_dd dd_L_law_1 1 (219, .aload_n 0, 1) rfl) rfl rfl ?_
  refine mx_iload (pc := 220) 4 (mx_dd dd_L_law_1 2 (220, .iload 4, 2) rfl) rfl ?_
  refine mx_iconst (pc := 222) (v := (4 : Int32)) (mx_dd dd_L_law_1 3 (222, .iconst 4, 1) rfl) (by decide) ?_
  refine mx_iadd (pc := 223) (mx_dd dd_L_law_1 4 (223, .iadd, 1) rfl) ?_
  obtain ⟨g4, P⟩ := P
  refine mx_xiald (pc := 224) g4 (mx_dd dd_L_law_1 5 (224, .iaload, 1) rfl) ?_
  refine mx_aload_n (pc := 225) 0 (mx_dd dd_L_law_1 6 (225, .aload_n 0, 1) rfl) rfl rfl ?_
  refine mx_iload (pc := 226) 4 (mx_dd dd_L_law_1 7 (226, .iload 4, 2) rfl) rfl ?_
  refine mx_iconst (pc := 228) (v := (5 : Int32)) (mx_dd dd_L_law_1 8 (228, .iconst 5, 1) rfl) (by decide) ?_
  refine mx_iadd (pc := 229) (mx_dd dd_L_law_1 9 (229, .iadd, 1) rfl) ?_
  obtain ⟨g5, P⟩ := P
  refine mx_xiald (pc := 230) g5 (mx_dd dd_L_law_1 10 (230, .iaload, 1) rfl) ?_
  obtain ⟨g6, P⟩ := P
  obtain ⟨g7, P⟩ := P
  refine mx_cVI (pc := 231) (Y := mY_X11_append) (As := [.int _, .int _, .int _, .int _, .int _]) mx_ml_L_50 mx_y_X11_append rfl g7 (by decide) rfl (by decide) rfl (mx_dd dd_L_law_1 11 (231, .invokevirtual 50, 3) rfl) g6 (by decide) P (fun v1 h1 P => ?_)
  refine mx_aload_n (pc := 234) 2 (mx_dd dd_L_law_1 12 (234, .aload_n 2, 1) rfl) rfl rfl ?_
  refine mx_aload_n (pc := 235) 0 (mx_dd dd_L_law_1 13 (235, .aload_n 0, 1) rfl) rfl rfl ?_
  refine mx_iload (pc := 236) 4 (mx_dd dd_L_law_1 14 (236, .iload 4, 2) rfl) rfl ?_
  refine mx_iconst (pc := 238) (v := (1 : Int32)) (mx_dd dd_L_law_1 15 (238, .iconst 1, 1) rfl) (by decide) ?_
  refine mx_iadd (pc := 239) (mx_dd dd_L_law_1 16 (239, .iadd, 1) rfl) ?_
  obtain ⟨g8, P⟩ := P
  refine mx_xiald (pc := 240) g8 (mx_dd dd_L_law_1 17 (240, .iaload, 1) rfl) ?_
  refine mx_aload_n (pc := 241) 0 (mx_dd dd_L_law_1 18 (241, .aload_n 0, 1) rfl) rfl rfl ?_
  refine mx_iload (pc := 242) 4 (mx_dd dd_L_law_1 19 (242, .iload 4, 2) rfl) rfl ?_
  refine mx_iconst (pc := 244) (v := (2 : Int32)) (mx_dd dd_L_law_1 20 (244, .iconst 2, 1) rfl) (by decide) ?_
  refine mx_iadd (pc := 245) (mx_dd dd_L_law_1 21 (245, .iadd, 1) rfl) ?_
  obtain ⟨g9, P⟩ := P
  refine mx_xiald (pc := 246) g9 (mx_dd dd_L_law_1 22 (246, .iaload, 1) rfl) ?_
  refine mx_aload_n (pc := 247) 0 (mx_dd dd_L_law_1 23 (247, .aload_n 0, 1) rfl) rfl rfl ?_
  refine mx_iload (pc := 248) 4 (mx_dd dd_L_law_1 24 (248, .iload 4, 2) rfl) rfl ?_
  refine mx_iconst (pc := 250) (v := (3 : Int32)) (mx_dd dd_L_law_1 25 (250, .iconst 3, 1) rfl) (by decide) ?_
  refine mx_iadd (pc := 251) (mx_dd dd_L_law_1 26 (251, .iadd, 1) rfl) ?_
  obtain ⟨g10, P⟩ := P
  refine mx_xiald (pc := 252) g10 (mx_dd dd_L_law_1 27 (252, .iaload, 1) rfl) ?_
  refine mx_aload_n (pc := 253) 0 (mx_dd dd_L_law_1 28 (253, .aload_n 0, 1) rfl) rfl rfl ?_
  refine mx_iload (pc := 254) 4 (mx_dd dd_L_law_1 29 (254, .iload 4, 2) rfl) rfl ?_
  refine mx_iconst (pc := 256) (v := (4 : Int32)) (mx_dd dd_L_law_1 30 (256, .iconst 4, 1) rfl) (by decide) ?_
  refine mx_iadd (pc := 257) (mx_dd dd_L_law_1 31 (257, .iadd, 1) rfl) ?_
  obtain ⟨g11, P⟩ := P
  refine mx_xiald (pc := 258) g11 (mx_dd dd_L_law_1 32 (258, .iaload, 1) rfl) ?_
  refine mx_aload_n (pc := 259) 0 (mx_dd dd_L_law_1 33 (259, .aload_n 0, 1) rfl) rfl rfl ?_
  refine mx_iload (pc := 260) 4 (mx_dd dd_L_law_1 34 (260, .iload 4, 2) rfl) rfl ?_
  refine mx_iconst (pc := 262) (v := (5 : Int32)) (mx_dd dd_L_law_1 35 (262, .iconst 5, 1) rfl) (by decide) ?_
  refine mx_iadd (pc := 263) (mx_dd dd_L_law_1 36 (263, .iadd, 1) rfl) ?_
  obtain ⟨g12, P⟩ := P
  refine mx_xiald (pc := 264) g12 (mx_dd dd_L_law_1 37 (264, .iaload, 1) rfl) ?_
  obtain ⟨g13, P⟩ := P
  refine mx_cVI (pc := 265) (Y := mY_X12_append) (As := [.int _, .int _, .int _, .int _, .int _]) mx_ml_L_54 mx_y_X12_append rfl g13 (by decide) rfl (by simp [Value.category]) rfl (mx_dd dd_L_law_1 38 (265, .invokevirtual 54, 3) rfl) g6 (by decide) P (fun v2 h2 P => ?_)
  refine mx_icmp_eq (pc := 268) 1326 (mx_dd dd_L_law_1 39 (268, .if_icmp .eq 1058, 3) rfl) rfl (fun c268 => ?_) (fun c268 => ?_)
  · have P := P.1 c268
    exact P
  · have P := P.2 c268
    refine mx_iconst (pc := 271) (v := (0 : Int32)) (mx_dd dd_L_law_2 0 (271, .iconst 0, 1) rfl) (by decide) ?_
    exact mx_ireturn (pc := 272) (mx_dd dd_L_law_2 1 (272, .ireturn, 1) rfl) rfl rfl P
theorem b_L_law_273 {d : Nat} {h : mxH} {Q : mxRes → mxH → Prop} (x1 : Nat) (x2 : Nat) (x3 : Nat) (x4 : Int32)
    (P : vp_in (x4 + (1 : Int32)) (hpZ h 0) ∧ 1 ≤ d ∧ hpK h x1 = 11 ∧ mx_SM mY_X11_truncate (d - 1) [.ref x1, .int (hpI h 0 (x4 + (1 : Int32)).toNatClampNeg)] h (mx_KI (fun v1 h1 => vp_in (x4 + (1 : Int32)) (hpZ h1 0) ∧ hpK h1 x2 = 12 ∧ mx_SM mY_X12_truncate (d - 1) [.ref x2, .int (hpI h1 0 (x4 + (1 : Int32)).toNatClampNeg)] h1 (mx_KI (fun v2 h2 => ((v1 = v2 → mx_SX mY_L_law d 1326 [(0, .ref 0), (1, .ref x1), (2, .ref x2), (3, .ref x3), (4, .int x4)] [] h2 Q) ∧ (¬ v1 = v2 → Q (.inl (some (.int (0 : Int32)))) h2))) (mx_XX mY_L_law Q))) (mx_XX mY_L_law Q))) : mx_SX mY_L_law d 273 [(0, .ref 0), (1, .ref x1), (2, .ref x2), (3, .ref x3), (4, .int x4)] [] h Q := by
  refine mx_aload_n (pc := 273) 1 (mx_dd dd_L_law_2 2 (273, .aload_n 1, 1) rfl) rfl rfl ?_
  refine mx_aload_n (pc := 274) 0 (mx_dd dd_L_law_2 3 (274, .aload_n 0, 1) rfl) rfl rfl ?_
  refine mx_iload (pc := 275) 4 (mx_dd dd_L_law_2 4 (275, .iload 4, 2) rfl) rfl ?_
  refine mx_iconst (pc := 277) (v := (1 : Int32)) (mx_dd dd_L_law_2 5 (277, .iconst 1, 1) rfl) (by decide) ?_
  refine mx_iadd (pc := 278) (mx_dd dd_L_law_2 6 (278, .iadd, 1) rfl) ?_
  obtain ⟨g1, P⟩ := P
  refine mx_xiald (pc := 279) g1 (mx_dd dd_L_law_2 7 (279, .iaload, 1) rfl) ?_
  obtain ⟨g2, P⟩ := P
  obtain ⟨g3, P⟩ := P
  refine mx_cVI (pc := 280) (Y := mY_X11_truncate) (As := [.int _]) mx_ml_L_55 mx_y_X11_truncate rfl g3 (by decide) rfl (by decide) rfl (mx_dd dd_L_law_2 8 (280, .invokevirtual 55, 3) rfl) g2 (by decide) P (fun v1 h1 P => ?_)
  refine mx_aload_n (pc := 283) 2 (mx_dd dd_L_law_2 9 (283, .aload_n 2, 1) rfl) rfl rfl ?_
  refine mx_aload_n (pc := 284) 0 (mx_dd dd_L_law_2 10 (284, .aload_n 0, 1) rfl) rfl rfl ?_
  refine mx_iload (pc := 285) 4 (mx_dd dd_L_law_2 11 (285, .iload 4, 2) rfl) rfl ?_
  refine mx_iconst (pc := 287) (v := (1 : Int32)) (mx_dd dd_L_law_2 12 (287, .iconst 1, 1) rfl) (by decide) ?_
  refine mx_iadd (pc := 288) (mx_dd dd_L_law_2 13 (288, .iadd, 1) rfl) ?_
  obtain ⟨g4, P⟩ := P
  refine mx_xiald (pc := 289) g4 (mx_dd dd_L_law_2 14 (289, .iaload, 1) rfl) ?_
  obtain ⟨g5, P⟩ := P
  refine mx_cVI (pc := 290) (Y := mY_X12_truncate) (As := [.int _]) mx_ml_L_59 mx_y_X12_truncate rfl g5 (by decide) rfl (by simp [Value.category]) rfl (mx_dd dd_L_law_2 15 (290, .invokevirtual 59, 3) rfl) g2 (by decide) P (fun v2 h2 P => ?_)
  refine mx_icmp_eq (pc := 293) 1326 (mx_dd dd_L_law_2 16 (293, .if_icmp .eq 1033, 3) rfl) rfl (fun c293 => ?_) (fun c293 => ?_)
  · have P := P.1 c293
    exact P
  · have P := P.2 c293
    refine mx_iconst (pc := 296) (v := (0 : Int32)) (mx_dd dd_L_law_2 17 (296, .iconst 0, 1) rfl) (by decide) ?_
    exact mx_ireturn (pc := 297) (mx_dd dd_L_law_2 18 (297, .ireturn, 1) rfl) rfl rfl P
theorem b_L_law_298 {d : Nat} {h : mxH} {Q : mxRes → mxH → Prop} (x1 : Nat) (x2 : Nat) (x3 : Nat) (x4 : Int32)
    (P : 1 ≤ d ∧ mx_SM mY_L_load (d - 1) [.ref x1, .ref x3] h (mx_KI (fun v1 h1 => hpK h1 x2 = 12 ∧ mx_SM mY_X12_load (d - 1) [.ref x2] h1 (mx_KI (fun v2 h2 => hpK h2 x2 = 12 ∧ mx_SM mY_X12_thrown (d - 1) [.ref x2] h2 (mx_KI (fun v3 h3 => ((v3 = v1 → ((¬ v1 = 0 → mx_SX mY_L_law d 339 [(0, .ref 0), (1, .ref x1), (2, .ref x2), (3, .ref x3), (4, .int x4)] [] h3 Q) ∧ (v1 = 0 → hpK h3 x3 = 15 ∧ vp_in (0 : Int32) (hpZ h3 x3) ∧ (((lg_cmp (hpL h3 x3 (0 : Int32).toNatClampNeg) (v2.toInt64)) = 0 → mx_SX mY_L_law d 339 [(0, .ref 0), (1, .ref x1), (2, .ref x2), (3, .ref x3), (4, .int x4)] [] h3 Q) ∧ (¬ (lg_cmp (hpL h3 x3 (0 : Int32).toNatClampNeg) (v2.toInt64)) = 0 → Q (.inl (some (.int (0 : Int32)))) h3))))) ∧ (¬ v3 = v1 → Q (.inl (some (.int (0 : Int32)))) h3))) (mx_XX mY_L_law Q))) (mx_XX mY_L_law Q))) (fun _ _ => False))) : mx_SX mY_L_law d 298 [(0, .ref 0), (1, .ref x1), (2, .ref x2), (3, .ref x3), (4, .int x4)] [] h Q := by
  refine mx_aload_n (pc := 298) 1 (mx_dd dd_L_law_2 19 (298, .aload_n 1, 1) rfl) rfl rfl ?_
  refine mx_aload_n (pc := 299) 3 (mx_dd dd_L_law_2 20 (299, .aload_n 3, 1) rfl) rfl rfl ?_
  obtain ⟨g1, P⟩ := P
  refine mx_cSWI (pc := 300) (Y := mY_L_load) (As := [.ref _, .ref _]) mx_ml_L_60 mx_y_L_load (by decide) rfl (by decide) rfl (mx_dd dd_L_law_2 21 (300, .invokestatic 60, 3) rfl) g1 (by decide) P (fun v1 h1 P => ?_)
  refine mx_istore (pc := 303) (mx_dd dd_L_law_2 22 (303, .istore 5, 2) rfl) (by decide) (lv' := [(5, _), (0, _), (1, _), (2, _), (3, _), (4, _)]) rfl ?_
  refine mx_aload_n (pc := 305) 3 (mx_dd dd_L_law_2 23 (305, .aload_n 2, 1) rfl) rfl rfl ?_
  obtain ⟨g2, P⟩ := P
  refine mx_cVI (pc := 306) (Y := mY_X12_load) (As := []) mx_ml_L_65 mx_y_X12_load rfl g2 (by decide) rfl (by decide) rfl (mx_dd dd_L_law_2 24 (306, .invokevirtual 65, 3) rfl) g1 (by decide) P (fun v2 h2 P => ?_)
  refine mx_istore (pc := 309) (mx_dd dd_L_law_2 25 (309, .istore 6, 2) rfl) (by decide) (lv' := [(6, _), (5, _), (0, _), (1, _), (2, _), (3, _), (4, _)]) rfl ?_
  refine mx_aload_n (pc := 311) 4 (mx_dd dd_L_law_2 26 (311, .aload_n 2, 1) rfl) rfl rfl ?_
  obtain ⟨g3, P⟩ := P
  refine mx_cVI (pc := 312) (Y := mY_X12_thrown) (As := []) mx_ml_L_66 mx_y_X12_thrown rfl g3 (by decide) rfl (by decide) rfl (mx_dd dd_L_law_2 27 (312, .invokevirtual 66, 3) rfl) g1 (by decide) P (fun v3 h3 P => ?_)
  refine mx_iload (pc := 315) 1 (mx_dd dd_L_law_2 28 (315, .iload 5, 2) rfl) rfl ?_
  refine mx_icmp_eq (pc := 317) 322 (mx_dd dd_L_law_2 29 (317, .if_icmp .eq 5, 3) rfl) rfl (fun c317 => ?_) (fun c317 => ?_)
  · have P := P.1 c317
    refine mx_iload (pc := 322) 1 (mx_dd dd_L_law_2 32 (322, .iload 5, 2) rfl) rfl ?_
    refine mx_if_ne (pc := 324) 339 (mx_dd dd_L_law_2 33 (324, .ifCond .ne 15, 3) rfl) rfl (fun c324 => ?_) (fun c324 => ?_)
    · have P := P.1 c324
      refine mx_sel [2, 3, 4, 5, 6] rfl ?_
      exact P
    · have P := P.2 c324
      refine mx_aload_n (pc := 327) 5 (mx_dd dd_L_law_2 34 (327, .aload_n 3, 1) rfl) rfl rfl ?_
      refine mx_iconst (pc := 328) (v := (0 : Int32)) (mx_dd dd_L_law_2 35 (328, .iconst 0, 1) rfl) (by decide) ?_
      obtain ⟨g4, P⟩ := P
      obtain ⟨g5, P⟩ := P
      refine mx_lald (pc := 329) g4 g5 (mx_dd dd_L_law_2 36 (329, .laload, 1) rfl) ?_
      refine mx_iload (pc := 330) 0 (mx_dd dd_L_law_2 37 (330, .iload 6, 2) rfl) rfl ?_
      refine mx_i2l (pc := 332) (mx_dd dd_L_law_2 38 (332, .i2l, 1) rfl) ?_
      refine mx_lcmp (pc := 333) (mx_dd dd_L_law_2 39 (333, .lcmp, 1) rfl) ?_
      refine mx_if_eq (pc := 334) 339 (mx_dd dd_L_law_3 0 (334, .ifCond .eq 5, 3) rfl) rfl (fun c334 => ?_) (fun c334 => ?_)
      · have P := P.1 c334
        refine mx_sel [2, 3, 4, 5, 6] rfl ?_
        exact P
      · have P := P.2 c334
        refine mx_iconst (pc := 337) (v := (0 : Int32)) (mx_dd dd_L_law_3 1 (337, .iconst 0, 1) rfl) (by decide) ?_
        exact mx_ireturn (pc := 338) (mx_dd dd_L_law_3 2 (338, .ireturn, 1) rfl) rfl rfl P
  · have P := P.2 c317
    refine mx_iconst (pc := 320) (v := (0 : Int32)) (mx_dd dd_L_law_2 30 (320, .iconst 0, 1) rfl) (by decide) ?_
    exact mx_ireturn (pc := 321) (mx_dd dd_L_law_2 31 (321, .ireturn, 1) rfl) rfl rfl P
theorem b_L_law_339 {d : Nat} {h : mxH} {Q : mxRes → mxH → Prop} (x1 : Nat) (x2 : Nat) (x3 : Nat) (x4 : Int32)
    (P : mx_SX mY_L_law d 1326 [(0, .ref 0), (1, .ref x1), (2, .ref x2), (3, .ref x3), (4, .int x4)] [] h Q) : mx_SX mY_L_law d 339 [(0, .ref 0), (1, .ref x1), (2, .ref x2), (3, .ref x3), (4, .int x4)] [] h Q := by
  refine mx_goto (pc := 339) 1326 (mx_dd dd_L_law_3 3 (339, .goto 987, 3) rfl) rfl ?_
  exact P
theorem b_L_law_342 {d : Nat} {h : mxH} {Q : mxRes → mxH → Prop} (x1 : Nat) (x2 : Nat) (x3 : Nat) (x4 : Int32)
    (P : 1 ≤ d ∧ hpK h x1 = 11 ∧ mx_SM mY_X11_errorOffset (d - 1) [.ref x1] h (mx_KI (fun v1 h1 => hpK h1 x2 = 12 ∧ mx_SM mY_X12_errorOffset (d - 1) [.ref x2] h1 (mx_KI (fun v2 h2 => ((v1 = v2 → mx_SX mY_L_law d 1326 [(0, .ref 0), (1, .ref x1), (2, .ref x2), (3, .ref x3), (4, .int x4)] [] h2 Q) ∧ (¬ v1 = v2 → Q (.inl (some (.int (0 : Int32)))) h2))) (mx_XX mY_L_law Q))) (mx_XX mY_L_law Q))) : mx_SX mY_L_law d 342 [(0, .ref 0), (1, .ref x1), (2, .ref x2), (3, .ref x3), (4, .int x4)] [] h Q := by
  refine mx_aload_n (pc := 342) 1 (mx_dd dd_L_law_3 4 (342, .aload_n 1, 1) rfl) rfl rfl ?_
  obtain ⟨g1, P⟩ := P
  obtain ⟨g2, P⟩ := P
  refine mx_cVI (pc := 343) (Y := mY_X11_errorOffset) (As := []) mx_ml_L_69 mx_y_X11_errorOffset rfl g2 (by decide) rfl (by decide) rfl (mx_dd dd_L_law_3 5 (343, .invokevirtual 69, 3) rfl) g1 (by decide) P (fun v1 h1 P => ?_)
  refine mx_aload_n (pc := 346) 2 (mx_dd dd_L_law_3 6 (346, .aload_n 2, 1) rfl) rfl rfl ?_
  obtain ⟨g3, P⟩ := P
  refine mx_cVI (pc := 347) (Y := mY_X12_errorOffset) (As := []) mx_ml_L_72 mx_y_X12_errorOffset rfl g3 (by decide) rfl (by simp [Value.category]) rfl (mx_dd dd_L_law_3 7 (347, .invokevirtual 72, 3) rfl) g1 (by decide) P (fun v2 h2 P => ?_)
  refine mx_icmp_eq (pc := 350) 1326 (mx_dd dd_L_law_3 8 (350, .if_icmp .eq 976, 3) rfl) rfl (fun c350 => ?_) (fun c350 => ?_)
  · have P := P.1 c350
    exact P
  · have P := P.2 c350
    refine mx_iconst (pc := 353) (v := (0 : Int32)) (mx_dd dd_L_law_3 9 (353, .iconst 0, 1) rfl) (by decide) ?_
    exact mx_ireturn (pc := 354) (mx_dd dd_L_law_3 10 (354, .ireturn, 1) rfl) rfl rfl P
theorem b_L_law_355 {d : Nat} {h : mxH} {Q : mxRes → mxH → Prop} (x1 : Nat) (x2 : Nat) (x3 : Nat) (x4 : Int32)
    (P : 1 ≤ d ∧ hpK h x1 = 11 ∧ mx_SM mY_X11_errorKind (d - 1) [.ref x1] h (mx_KI (fun v1 h1 => hpK h1 x2 = 12 ∧ mx_SM mY_X12_errorKind (d - 1) [.ref x2] h1 (mx_KI (fun v2 h2 => ((v1 = v2 → mx_SX mY_L_law d 1326 [(0, .ref 0), (1, .ref x1), (2, .ref x2), (3, .ref x3), (4, .int x4)] [] h2 Q) ∧ (¬ v1 = v2 → Q (.inl (some (.int (0 : Int32)))) h2))) (mx_XX mY_L_law Q))) (mx_XX mY_L_law Q))) : mx_SX mY_L_law d 355 [(0, .ref 0), (1, .ref x1), (2, .ref x2), (3, .ref x3), (4, .int x4)] [] h Q := by
  refine mx_aload_n (pc := 355) 1 (mx_dd dd_L_law_3 11 (355, .aload_n 1, 1) rfl) rfl rfl ?_
  obtain ⟨g1, P⟩ := P
  obtain ⟨g2, P⟩ := P
  refine mx_cVI (pc := 356) (Y := mY_X11_errorKind) (As := []) mx_ml_L_73 mx_y_X11_errorKind rfl g2 (by decide) rfl (by decide) rfl (mx_dd dd_L_law_3 12 (356, .invokevirtual 73, 3) rfl) g1 (by decide) P (fun v1 h1 P => ?_)
  refine mx_aload_n (pc := 359) 2 (mx_dd dd_L_law_3 13 (359, .aload_n 2, 1) rfl) rfl rfl ?_
  obtain ⟨g3, P⟩ := P
  refine mx_cVI (pc := 360) (Y := mY_X12_errorKind) (As := []) mx_ml_L_76 mx_y_X12_errorKind rfl g3 (by decide) rfl (by simp [Value.category]) rfl (mx_dd dd_L_law_3 14 (360, .invokevirtual 76, 3) rfl) g1 (by decide) P (fun v2 h2 P => ?_)
  refine mx_icmp_eq (pc := 363) 1326 (mx_dd dd_L_law_3 15 (363, .if_icmp .eq 963, 3) rfl) rfl (fun c363 => ?_) (fun c363 => ?_)
  · have P := P.1 c363
    exact P
  · have P := P.2 c363
    refine mx_iconst (pc := 366) (v := (0 : Int32)) (mx_dd dd_L_law_3 16 (366, .iconst 0, 1) rfl) (by decide) ?_
    exact mx_ireturn (pc := 367) (mx_dd dd_L_law_3 17 (367, .ireturn, 1) rfl) rfl rfl P
theorem b_L_law_368 {d : Nat} {h : mxH} {Q : mxRes → mxH → Prop} (x1 : Nat) (x2 : Nat) (x3 : Nat) (x4 : Int32)
    (P : 1 ≤ d ∧ mx_SM mY_L_type (d - 1) [.ref x1, .ref x3] h (mx_KI (fun v1 h1 => hpK h1 x2 = 12 ∧ mx_SM mY_X12_type (d - 1) [.ref x2] h1 (mx_KI (fun v2 h2 => hpK h2 x2 = 12 ∧ mx_SM mY_X12_thrown (d - 1) [.ref x2] h2 (mx_KI (fun v3 h3 => ((v3 = v1 → ((¬ v1 = 0 → mx_SX mY_L_law d 409 [(0, .ref 0), (1, .ref x1), (2, .ref x2), (3, .ref x3), (4, .int x4)] [] h3 Q) ∧ (v1 = 0 → hpK h3 x3 = 15 ∧ vp_in (0 : Int32) (hpZ h3 x3) ∧ (((lg_cmp (hpL h3 x3 (0 : Int32).toNatClampNeg) (v2.toInt64)) = 0 → mx_SX mY_L_law d 409 [(0, .ref 0), (1, .ref x1), (2, .ref x2), (3, .ref x3), (4, .int x4)] [] h3 Q) ∧ (¬ (lg_cmp (hpL h3 x3 (0 : Int32).toNatClampNeg) (v2.toInt64)) = 0 → Q (.inl (some (.int (0 : Int32)))) h3))))) ∧ (¬ v3 = v1 → Q (.inl (some (.int (0 : Int32)))) h3))) (mx_XX mY_L_law Q))) (mx_XX mY_L_law Q))) (fun _ _ => False))) : mx_SX mY_L_law d 368 [(0, .ref 0), (1, .ref x1), (2, .ref x2), (3, .ref x3), (4, .int x4)] [] h Q := by
  refine mx_aload_n (pc := 368) 1 (mx_dd dd_L_law_3 18 (368, .aload_n 1, 1) rfl) rfl rfl ?_
  refine mx_aload_n (pc := 369) 3 (mx_dd dd_L_law_3 19 (369, .aload_n 3, 1) rfl) rfl rfl ?_
  obtain ⟨g1, P⟩ := P
  refine mx_cSWI (pc := 370) (Y := mY_L_type) (As := [.ref _, .ref _]) mx_ml_L_77 mx_y_L_type (by decide) rfl (by decide) rfl (mx_dd dd_L_law_3 20 (370, .invokestatic 77, 3) rfl) g1 (by decide) P (fun v1 h1 P => ?_)
  refine mx_istore (pc := 373) (mx_dd dd_L_law_3 21 (373, .istore 5, 2) rfl) (by decide) (lv' := [(5, _), (0, _), (1, _), (2, _), (3, _), (4, _)]) rfl ?_
  refine mx_aload_n (pc := 375) 3 (mx_dd dd_L_law_3 22 (375, .aload_n 2, 1) rfl) rfl rfl ?_
  obtain ⟨g2, P⟩ := P
  refine mx_cVI (pc := 376) (Y := mY_X12_type) (As := []) mx_ml_L_79 mx_y_X12_type rfl g2 (by decide) rfl (by decide) rfl (mx_dd dd_L_law_3 23 (376, .invokevirtual 79, 3) rfl) g1 (by decide) P (fun v2 h2 P => ?_)
  refine mx_istore (pc := 379) (mx_dd dd_L_law_3 24 (379, .istore 6, 2) rfl) (by decide) (lv' := [(6, _), (5, _), (0, _), (1, _), (2, _), (3, _), (4, _)]) rfl ?_
  refine mx_aload_n (pc := 381) 4 (mx_dd dd_L_law_3 25 (381, .aload_n 2, 1) rfl) rfl rfl ?_
  obtain ⟨g3, P⟩ := P
  refine mx_cVI (pc := 382) (Y := mY_X12_thrown) (As := []) mx_ml_L_66 mx_y_X12_thrown rfl g3 (by decide) rfl (by decide) rfl (mx_dd dd_L_law_3 26 (382, .invokevirtual 66, 3) rfl) g1 (by decide) P (fun v3 h3 P => ?_)
  refine mx_iload (pc := 385) 1 (mx_dd dd_L_law_3 27 (385, .iload 5, 2) rfl) rfl ?_
  refine mx_icmp_eq (pc := 387) 392 (mx_dd dd_L_law_3 28 (387, .if_icmp .eq 5, 3) rfl) rfl (fun c387 => ?_) (fun c387 => ?_)
  · have P := P.1 c387
    refine mx_iload (pc := 392) 1 (mx_dd dd_L_law_3 31 (392, .iload 5, 2) rfl) rfl ?_
    refine mx_if_ne (pc := 394) 409 (mx_dd dd_L_law_3 32 (394, .ifCond .ne 15, 3) rfl) rfl (fun c394 => ?_) (fun c394 => ?_)
    · have P := P.1 c394
      refine mx_sel [2, 3, 4, 5, 6] rfl ?_
      exact P
    · have P := P.2 c394
      refine mx_aload_n (pc := 397) 5 (mx_dd dd_L_law_3 33 (397, .aload_n 3, 1) rfl) rfl rfl ?_
      refine mx_iconst (pc := 398) (v := (0 : Int32)) (mx_dd dd_L_law_3 34 (398, .iconst 0, 1) rfl) (by decide) ?_
      obtain ⟨g4, P⟩ := P
      obtain ⟨g5, P⟩ := P
      refine mx_lald (pc := 399) g4 g5 (mx_dd dd_L_law_3 35 (399, .laload, 1) rfl) ?_
      refine mx_iload (pc := 400) 0 (mx_dd dd_L_law_3 36 (400, .iload 6, 2) rfl) rfl ?_
      refine mx_i2l (pc := 402) (mx_dd dd_L_law_3 37 (402, .i2l, 1) rfl) ?_
      refine mx_lcmp (pc := 403) (mx_dd dd_L_law_3 38 (403, .lcmp, 1) rfl) ?_
      refine mx_if_eq (pc := 404) 409 (mx_dd dd_L_law_3 39 (404, .ifCond .eq 5, 3) rfl) rfl (fun c404 => ?_) (fun c404 => ?_)
      · have P := P.1 c404
        refine mx_sel [2, 3, 4, 5, 6] rfl ?_
        exact P
      · have P := P.2 c404
        refine mx_iconst (pc := 407) (v := (0 : Int32)) (mx_dd dd_L_law_4 0 (407, .iconst 0, 1) rfl) (by decide) ?_
        exact mx_ireturn (pc := 408) (mx_dd dd_L_law_4 1 (408, .ireturn, 1) rfl) rfl rfl P
  · have P := P.2 c387
    refine mx_iconst (pc := 390) (v := (0 : Int32)) (mx_dd dd_L_law_3 29 (390, .iconst 0, 1) rfl) (by decide) ?_
    exact mx_ireturn (pc := 391) (mx_dd dd_L_law_3 30 (391, .ireturn, 1) rfl) rfl rfl P
theorem b_L_law_409 {d : Nat} {h : mxH} {Q : mxRes → mxH → Prop} (x1 : Nat) (x2 : Nat) (x3 : Nat) (x4 : Int32)
    (P : mx_SX mY_L_law d 1326 [(0, .ref 0), (1, .ref x1), (2, .ref x2), (3, .ref x3), (4, .int x4)] [] h Q) : mx_SX mY_L_law d 409 [(0, .ref 0), (1, .ref x1), (2, .ref x2), (3, .ref x3), (4, .int x4)] [] h Q := by
  refine mx_goto (pc := 409) 1326 (mx_dd dd_L_law_4 2 (409, .goto 917, 3) rfl) rfl ?_
  exact P
theorem b_L_law_412 {d : Nat} {h : mxH} {Q : mxRes → mxH → Prop} (x1 : Nat) (x2 : Nat) (x3 : Nat) (x4 : Int32)
    (P : 1 ≤ d ∧ hpK h x1 = 11 ∧ mx_SM mY_X11_run (d - 1) [.ref x1] h (mx_KI (fun v1 h1 => hpK h1 x2 = 12 ∧ mx_SM mY_X12_run (d - 1) [.ref x2] h1 (mx_KI (fun v2 h2 => ((v1 = v2 → mx_SX mY_L_law d 1326 [(0, .ref 0), (1, .ref x1), (2, .ref x2), (3, .ref x3), (4, .int x4)] [] h2 Q) ∧ (¬ v1 = v2 → Q (.inl (some (.int (0 : Int32)))) h2))) (mx_XX mY_L_law Q))) (mx_XX mY_L_law Q))) : mx_SX mY_L_law d 412 [(0, .ref 0), (1, .ref x1), (2, .ref x2), (3, .ref x3), (4, .int x4)] [] h Q := by
  refine mx_aload_n (pc := 412) 1 (mx_dd dd_L_law_4 3 (412, .aload_n 1, 1) rfl) rfl rfl ?_
  obtain ⟨g1, P⟩ := P
  obtain ⟨g2, P⟩ := P
  refine mx_cVI (pc := 413) (Y := mY_X11_run) (As := []) mx_ml_L_80 mx_y_X11_run rfl g2 (by decide) rfl (by decide) rfl (mx_dd dd_L_law_4 4 (413, .invokevirtual 80, 3) rfl) g1 (by decide) P (fun v1 h1 P => ?_)
  refine mx_aload_n (pc := 416) 2 (mx_dd dd_L_law_4 5 (416, .aload_n 2, 1) rfl) rfl rfl ?_
  obtain ⟨g3, P⟩ := P
  refine mx_cVI (pc := 417) (Y := mY_X12_run) (As := []) mx_ml_L_83 mx_y_X12_run rfl g3 (by decide) rfl (by simp [Value.category]) rfl (mx_dd dd_L_law_4 6 (417, .invokevirtual 83, 3) rfl) g1 (by decide) P (fun v2 h2 P => ?_)
  refine mx_icmp_eq (pc := 420) 1326 (mx_dd dd_L_law_4 7 (420, .if_icmp .eq 906, 3) rfl) rfl (fun c420 => ?_) (fun c420 => ?_)
  · have P := P.1 c420
    exact P
  · have P := P.2 c420
    refine mx_iconst (pc := 423) (v := (0 : Int32)) (mx_dd dd_L_law_4 8 (423, .iconst 0, 1) rfl) (by decide) ?_
    exact mx_ireturn (pc := 424) (mx_dd dd_L_law_4 9 (424, .ireturn, 1) rfl) rfl rfl P
theorem b_L_law_425 {d : Nat} {h : mxH} {Q : mxRes → mxH → Prop} (x1 : Nat) (x2 : Nat) (x3 : Nat) (x4 : Int32)
    (P : 1 ≤ d ∧ hpK h x1 = 11 ∧ mx_SM mY_X11_status (d - 1) [.ref x1] h (mx_KI (fun v1 h1 => hpK h1 x2 = 12 ∧ mx_SM mY_X12_status (d - 1) [.ref x2] h1 (mx_KI (fun v2 h2 => ((v1 = v2 → mx_SX mY_L_law d 1326 [(0, .ref 0), (1, .ref x1), (2, .ref x2), (3, .ref x3), (4, .int x4)] [] h2 Q) ∧ (¬ v1 = v2 → Q (.inl (some (.int (0 : Int32)))) h2))) (mx_XX mY_L_law Q))) (mx_XX mY_L_law Q))) : mx_SX mY_L_law d 425 [(0, .ref 0), (1, .ref x1), (2, .ref x2), (3, .ref x3), (4, .int x4)] [] h Q := by
  refine mx_aload_n (pc := 425) 1 (mx_dd dd_L_law_4 10 (425, .aload_n 1, 1) rfl) rfl rfl ?_
  obtain ⟨g1, P⟩ := P
  obtain ⟨g2, P⟩ := P
  refine mx_cVI (pc := 426) (Y := mY_X11_status) (As := []) mx_ml_L_84 mx_y_X11_status rfl g2 (by decide) rfl (by decide) rfl (mx_dd dd_L_law_4 11 (426, .invokevirtual 84, 3) rfl) g1 (by decide) P (fun v1 h1 P => ?_)
  refine mx_aload_n (pc := 429) 2 (mx_dd dd_L_law_4 12 (429, .aload_n 2, 1) rfl) rfl rfl ?_
  obtain ⟨g3, P⟩ := P
  refine mx_cVI (pc := 430) (Y := mY_X12_status) (As := []) mx_ml_L_87 mx_y_X12_status rfl g3 (by decide) rfl (by simp [Value.category]) rfl (mx_dd dd_L_law_4 13 (430, .invokevirtual 87, 3) rfl) g1 (by decide) P (fun v2 h2 P => ?_)
  refine mx_icmp_eq (pc := 433) 1326 (mx_dd dd_L_law_4 14 (433, .if_icmp .eq 893, 3) rfl) rfl (fun c433 => ?_) (fun c433 => ?_)
  · have P := P.1 c433
    exact P
  · have P := P.2 c433
    refine mx_iconst (pc := 436) (v := (0 : Int32)) (mx_dd dd_L_law_4 15 (436, .iconst 0, 1) rfl) (by decide) ?_
    exact mx_ireturn (pc := 437) (mx_dd dd_L_law_4 16 (437, .ireturn, 1) rfl) rfl rfl P
theorem b_L_law_438 {d : Nat} {h : mxH} {Q : mxRes → mxH → Prop} (x1 : Nat) (x2 : Nat) (x3 : Nat) (x4 : Int32)
    (P : 1 ≤ d ∧ hpK h x1 = 11 ∧ mx_SM mY_X11_isStopped (d - 1) [.ref x1] h (mx_KI (fun v1 h1 => hpK h1 x2 = 12 ∧ mx_SM mY_X12_isStopped (d - 1) [.ref x2] h1 (mx_KI (fun v2 h2 => ((v1 = v2 → mx_SX mY_L_law d 1326 [(0, .ref 0), (1, .ref x1), (2, .ref x2), (3, .ref x3), (4, .int x4)] [] h2 Q) ∧ (¬ v1 = v2 → Q (.inl (some (.int (0 : Int32)))) h2))) (mx_XX mY_L_law Q))) (mx_XX mY_L_law Q))) : mx_SX mY_L_law d 438 [(0, .ref 0), (1, .ref x1), (2, .ref x2), (3, .ref x3), (4, .int x4)] [] h Q := by
  refine mx_aload_n (pc := 438) 1 (mx_dd dd_L_law_4 17 (438, .aload_n 1, 1) rfl) rfl rfl ?_
  obtain ⟨g1, P⟩ := P
  obtain ⟨g2, P⟩ := P
  refine mx_cVI (pc := 439) (Y := mY_X11_isStopped) (As := []) mx_ml_L_88 mx_y_X11_isStopped rfl g2 (by decide) rfl (by decide) rfl (mx_dd dd_L_law_4 18 (439, .invokevirtual 88, 3) rfl) g1 (by decide) P (fun v1 h1 P => ?_)
  refine mx_aload_n (pc := 442) 2 (mx_dd dd_L_law_4 19 (442, .aload_n 2, 1) rfl) rfl rfl ?_
  obtain ⟨g3, P⟩ := P
  refine mx_cVI (pc := 443) (Y := mY_X12_isStopped) (As := []) mx_ml_L_92 mx_y_X12_isStopped rfl g3 (by decide) rfl (by simp [Value.category]) rfl (mx_dd dd_L_law_4 20 (443, .invokevirtual 92, 3) rfl) g1 (by decide) P (fun v2 h2 P => ?_)
  refine mx_icmp_eq (pc := 446) 1326 (mx_dd dd_L_law_4 21 (446, .if_icmp .eq 880, 3) rfl) rfl (fun c446 => ?_) (fun c446 => ?_)
  · have P := P.1 c446
    exact P
  · have P := P.2 c446
    refine mx_iconst (pc := 449) (v := (0 : Int32)) (mx_dd dd_L_law_4 22 (449, .iconst 0, 1) rfl) (by decide) ?_
    exact mx_ireturn (pc := 450) (mx_dd dd_L_law_4 23 (450, .ireturn, 1) rfl) rfl rfl P
theorem b_L_law_451 {d : Nat} {h : mxH} {Q : mxRes → mxH → Prop} (x1 : Nat) (x2 : Nat) (x3 : Nat) (x4 : Int32)
    (P : 1 ≤ d ∧ hpK h x1 = 11 ∧ mx_SM mY_X11_begun (d - 1) [.ref x1] h (mx_KI (fun v1 h1 => hpK h1 x2 = 12 ∧ mx_SM mY_X12_begun (d - 1) [.ref x2] h1 (mx_KI (fun v2 h2 => ((v1 = v2 → mx_SX mY_L_law d 1326 [(0, .ref 0), (1, .ref x1), (2, .ref x2), (3, .ref x3), (4, .int x4)] [] h2 Q) ∧ (¬ v1 = v2 → Q (.inl (some (.int (0 : Int32)))) h2))) (mx_XX mY_L_law Q))) (mx_XX mY_L_law Q))) : mx_SX mY_L_law d 451 [(0, .ref 0), (1, .ref x1), (2, .ref x2), (3, .ref x3), (4, .int x4)] [] h Q := by
  refine mx_aload_n (pc := 451) 1 (mx_dd dd_L_law_4 24 (451, .aload_n 1, 1) rfl) rfl rfl ?_
  obtain ⟨g1, P⟩ := P
  obtain ⟨g2, P⟩ := P
  refine mx_cVI (pc := 452) (Y := mY_X11_begun) (As := []) mx_ml_L_93 mx_y_X11_begun rfl g2 (by decide) rfl (by decide) rfl (mx_dd dd_L_law_4 25 (452, .invokevirtual 93, 3) rfl) g1 (by decide) P (fun v1 h1 P => ?_)
  refine mx_aload_n (pc := 455) 2 (mx_dd dd_L_law_4 26 (455, .aload_n 2, 1) rfl) rfl rfl ?_
  obtain ⟨g3, P⟩ := P
  refine mx_cVI (pc := 456) (Y := mY_X12_begun) (As := []) mx_ml_L_96 mx_y_X12_begun rfl g3 (by decide) rfl (by simp [Value.category]) rfl (mx_dd dd_L_law_4 27 (456, .invokevirtual 96, 3) rfl) g1 (by decide) P (fun v2 h2 P => ?_)
  refine mx_icmp_eq (pc := 459) 1326 (mx_dd dd_L_law_4 28 (459, .if_icmp .eq 867, 3) rfl) rfl (fun c459 => ?_) (fun c459 => ?_)
  · have P := P.1 c459
    exact P
  · have P := P.2 c459
    refine mx_iconst (pc := 462) (v := (0 : Int32)) (mx_dd dd_L_law_4 29 (462, .iconst 0, 1) rfl) (by decide) ?_
    exact mx_ireturn (pc := 463) (mx_dd dd_L_law_4 30 (463, .ireturn, 1) rfl) rfl rfl P
theorem b_L_law_464 {d : Nat} {h : mxH} {Q : mxRes → mxH → Prop} (x1 : Nat) (x2 : Nat) (x3 : Nat) (x4 : Int32)
    (P : 1 ≤ d ∧ hpK h x1 = 11 ∧ mx_SM mY_X11_forks (d - 1) [.ref x1] h (mx_KI (fun v1 h1 => hpK h1 x2 = 12 ∧ mx_SM mY_X12_forks (d - 1) [.ref x2] h1 (mx_KI (fun v2 h2 => ((v1 = v2 → mx_SX mY_L_law d 1326 [(0, .ref 0), (1, .ref x1), (2, .ref x2), (3, .ref x3), (4, .int x4)] [] h2 Q) ∧ (¬ v1 = v2 → Q (.inl (some (.int (0 : Int32)))) h2))) (mx_XX mY_L_law Q))) (mx_XX mY_L_law Q))) : mx_SX mY_L_law d 464 [(0, .ref 0), (1, .ref x1), (2, .ref x2), (3, .ref x3), (4, .int x4)] [] h Q := by
  refine mx_aload_n (pc := 464) 1 (mx_dd dd_L_law_4 31 (464, .aload_n 1, 1) rfl) rfl rfl ?_
  obtain ⟨g1, P⟩ := P
  obtain ⟨g2, P⟩ := P
  refine mx_cVI (pc := 465) (Y := mY_X11_forks) (As := []) mx_ml_L_97 mx_y_X11_forks rfl g2 (by decide) rfl (by decide) rfl (mx_dd dd_L_law_4 32 (465, .invokevirtual 97, 3) rfl) g1 (by decide) P (fun v1 h1 P => ?_)
  refine mx_aload_n (pc := 468) 2 (mx_dd dd_L_law_4 33 (468, .aload_n 2, 1) rfl) rfl rfl ?_
  obtain ⟨g3, P⟩ := P
  refine mx_cVI (pc := 469) (Y := mY_X12_forks) (As := []) mx_ml_L_100 mx_y_X12_forks rfl g3 (by decide) rfl (by simp [Value.category]) rfl (mx_dd dd_L_law_4 34 (469, .invokevirtual 100, 3) rfl) g1 (by decide) P (fun v2 h2 P => ?_)
  refine mx_icmp_eq (pc := 472) 1326 (mx_dd dd_L_law_4 35 (472, .if_icmp .eq 854, 3) rfl) rfl (fun c472 => ?_) (fun c472 => ?_)
  · have P := P.1 c472
    exact P
  · have P := P.2 c472
    refine mx_iconst (pc := 475) (v := (0 : Int32)) (mx_dd dd_L_law_4 36 (475, .iconst 0, 1) rfl) (by decide) ?_
    exact mx_ireturn (pc := 476) (mx_dd dd_L_law_4 37 (476, .ireturn, 1) rfl) rfl rfl P
theorem b_L_law_477 {d : Nat} {h : mxH} {Q : mxRes → mxH → Prop} (x1 : Nat) (x2 : Nat) (x3 : Nat) (x4 : Int32)
    (P : 1 ≤ d ∧ hpK h x1 = 11 ∧ mx_SM mY_X11_jobCount (d - 1) [.ref x1] h (mx_KI (fun v1 h1 => hpK h1 x2 = 12 ∧ mx_SM mY_X12_jobCount (d - 1) [.ref x2] h1 (mx_KI (fun v2 h2 => ((v1 = v2 → mx_SX mY_L_law d 1326 [(0, .ref 0), (1, .ref x1), (2, .ref x2), (3, .ref x3), (4, .int x4)] [] h2 Q) ∧ (¬ v1 = v2 → Q (.inl (some (.int (0 : Int32)))) h2))) (mx_XX mY_L_law Q))) (mx_XX mY_L_law Q))) : mx_SX mY_L_law d 477 [(0, .ref 0), (1, .ref x1), (2, .ref x2), (3, .ref x3), (4, .int x4)] [] h Q := by
  refine mx_aload_n (pc := 477) 1 (mx_dd dd_L_law_4 38 (477, .aload_n 1, 1) rfl) rfl rfl ?_
  obtain ⟨g1, P⟩ := P
  obtain ⟨g2, P⟩ := P
  refine mx_cVI (pc := 478) (Y := mY_X11_jobCount) (As := []) mx_ml_L_101 mx_y_X11_jobCount rfl g2 (by decide) rfl (by decide) rfl (mx_dd dd_L_law_4 39 (478, .invokevirtual 101, 3) rfl) g1 (by decide) P (fun v1 h1 P => ?_)
  refine mx_aload_n (pc := 481) 2 (mx_dd dd_L_law_5 0 (481, .aload_n 2, 1) rfl) rfl rfl ?_
  obtain ⟨g3, P⟩ := P
  refine mx_cVI (pc := 482) (Y := mY_X12_jobCount) (As := []) mx_ml_L_104 mx_y_X12_jobCount rfl g3 (by decide) rfl (by simp [Value.category]) rfl (mx_dd dd_L_law_5 1 (482, .invokevirtual 104, 3) rfl) g1 (by decide) P (fun v2 h2 P => ?_)
  refine mx_icmp_eq (pc := 485) 1326 (mx_dd dd_L_law_5 2 (485, .if_icmp .eq 841, 3) rfl) rfl (fun c485 => ?_) (fun c485 => ?_)
  · have P := P.1 c485
    exact P
  · have P := P.2 c485
    refine mx_iconst (pc := 488) (v := (0 : Int32)) (mx_dd dd_L_law_5 3 (488, .iconst 0, 1) rfl) (by decide) ?_
    exact mx_ireturn (pc := 489) (mx_dd dd_L_law_5 4 (489, .ireturn, 1) rfl) rfl rfl P
theorem b_L_law_490 {d : Nat} {h : mxH} {Q : mxRes → mxH → Prop} (x1 : Nat) (x2 : Nat) (x3 : Nat) (x4 : Int32)
    (P : vp_in (x4 + (1 : Int32)) (hpZ h 0) ∧ 1 ≤ d ∧ hpK h x1 = 11 ∧ mx_SM mY_X11_jobStatus (d - 1) [.ref x1, .int (hpI h 0 (x4 + (1 : Int32)).toNatClampNeg)] h (mx_KI (fun v1 h1 => vp_in (x4 + (1 : Int32)) (hpZ h1 0) ∧ hpK h1 x2 = 12 ∧ mx_SM mY_X12_jobStatus (d - 1) [.ref x2, .int (hpI h1 0 (x4 + (1 : Int32)).toNatClampNeg)] h1 (mx_KI (fun v2 h2 => ((v1 = v2 → mx_SX mY_L_law d 1326 [(0, .ref 0), (1, .ref x1), (2, .ref x2), (3, .ref x3), (4, .int x4)] [] h2 Q) ∧ (¬ v1 = v2 → Q (.inl (some (.int (0 : Int32)))) h2))) (mx_XX mY_L_law Q))) (mx_XX mY_L_law Q))) : mx_SX mY_L_law d 490 [(0, .ref 0), (1, .ref x1), (2, .ref x2), (3, .ref x3), (4, .int x4)] [] h Q := by
  refine mx_aload_n (pc := 490) 1 (mx_dd dd_L_law_5 5 (490, .aload_n 1, 1) rfl) rfl rfl ?_
  refine mx_aload_n (pc := 491) 0 (mx_dd dd_L_law_5 6 (491, .aload_n 0, 1) rfl) rfl rfl ?_
  refine mx_iload (pc := 492) 4 (mx_dd dd_L_law_5 7 (492, .iload 4, 2) rfl) rfl ?_
  refine mx_iconst (pc := 494) (v := (1 : Int32)) (mx_dd dd_L_law_5 8 (494, .iconst 1, 1) rfl) (by decide) ?_
  refine mx_iadd (pc := 495) (mx_dd dd_L_law_5 9 (495, .iadd, 1) rfl) ?_
  obtain ⟨g1, P⟩ := P
  refine mx_xiald (pc := 496) g1 (mx_dd dd_L_law_5 10 (496, .iaload, 1) rfl) ?_
  obtain ⟨g2, P⟩ := P
  obtain ⟨g3, P⟩ := P
  refine mx_cVI (pc := 497) (Y := mY_X11_jobStatus) (As := [.int _]) mx_ml_L_105 mx_y_X11_jobStatus rfl g3 (by decide) rfl (by decide) rfl (mx_dd dd_L_law_5 11 (497, .invokevirtual 105, 3) rfl) g2 (by decide) P (fun v1 h1 P => ?_)
  refine mx_aload_n (pc := 500) 2 (mx_dd dd_L_law_5 12 (500, .aload_n 2, 1) rfl) rfl rfl ?_
  refine mx_aload_n (pc := 501) 0 (mx_dd dd_L_law_5 13 (501, .aload_n 0, 1) rfl) rfl rfl ?_
  refine mx_iload (pc := 502) 4 (mx_dd dd_L_law_5 14 (502, .iload 4, 2) rfl) rfl ?_
  refine mx_iconst (pc := 504) (v := (1 : Int32)) (mx_dd dd_L_law_5 15 (504, .iconst 1, 1) rfl) (by decide) ?_
  refine mx_iadd (pc := 505) (mx_dd dd_L_law_5 16 (505, .iadd, 1) rfl) ?_
  obtain ⟨g4, P⟩ := P
  refine mx_xiald (pc := 506) g4 (mx_dd dd_L_law_5 17 (506, .iaload, 1) rfl) ?_
  obtain ⟨g5, P⟩ := P
  refine mx_cVI (pc := 507) (Y := mY_X12_jobStatus) (As := [.int _]) mx_ml_L_108 mx_y_X12_jobStatus rfl g5 (by decide) rfl (by simp [Value.category]) rfl (mx_dd dd_L_law_5 18 (507, .invokevirtual 108, 3) rfl) g2 (by decide) P (fun v2 h2 P => ?_)
  refine mx_icmp_eq (pc := 510) 1326 (mx_dd dd_L_law_5 19 (510, .if_icmp .eq 816, 3) rfl) rfl (fun c510 => ?_) (fun c510 => ?_)
  · have P := P.1 c510
    exact P
  · have P := P.2 c510
    refine mx_iconst (pc := 513) (v := (0 : Int32)) (mx_dd dd_L_law_5 20 (513, .iconst 0, 1) rfl) (by decide) ?_
    exact mx_ireturn (pc := 514) (mx_dd dd_L_law_5 21 (514, .ireturn, 1) rfl) rfl rfl P
theorem b_L_law_515 {d : Nat} {h : mxH} {Q : mxRes → mxH → Prop} (x1 : Nat) (x2 : Nat) (x3 : Nat) (x4 : Int32)
    (P : 1 ≤ d ∧ hpK h x1 = 11 ∧ mx_SM mY_X11_undo (d - 1) [.ref x1] h (mx_KI (fun v1 h1 => hpK h1 x2 = 12 ∧ mx_SM mY_X12_undo (d - 1) [.ref x2] h1 (mx_KI (fun v2 h2 => ((v1 = v2 → mx_SX mY_L_law d 1326 [(0, .ref 0), (1, .ref x1), (2, .ref x2), (3, .ref x3), (4, .int x4)] [] h2 Q) ∧ (¬ v1 = v2 → Q (.inl (some (.int (0 : Int32)))) h2))) (mx_XX mY_L_law Q))) (mx_XX mY_L_law Q))) : mx_SX mY_L_law d 515 [(0, .ref 0), (1, .ref x1), (2, .ref x2), (3, .ref x3), (4, .int x4)] [] h Q := by
  refine mx_aload_n (pc := 515) 1 (mx_dd dd_L_law_5 22 (515, .aload_n 1, 1) rfl) rfl rfl ?_
  obtain ⟨g1, P⟩ := P
  obtain ⟨g2, P⟩ := P
  refine mx_cVI (pc := 516) (Y := mY_X11_undo) (As := []) mx_ml_L_109 mx_y_X11_undo rfl g2 (by decide) rfl (by decide) rfl (mx_dd dd_L_law_5 23 (516, .invokevirtual 109, 3) rfl) g1 (by decide) P (fun v1 h1 P => ?_)
  refine mx_aload_n (pc := 519) 2 (mx_dd dd_L_law_5 24 (519, .aload_n 2, 1) rfl) rfl rfl ?_
  obtain ⟨g3, P⟩ := P
  refine mx_cVI (pc := 520) (Y := mY_X12_undo) (As := []) mx_ml_L_112 mx_y_X12_undo rfl g3 (by decide) rfl (by simp [Value.category]) rfl (mx_dd dd_L_law_5 25 (520, .invokevirtual 112, 3) rfl) g1 (by decide) P (fun v2 h2 P => ?_)
  refine mx_icmp_eq (pc := 523) 1326 (mx_dd dd_L_law_5 26 (523, .if_icmp .eq 803, 3) rfl) rfl (fun c523 => ?_) (fun c523 => ?_)
  · have P := P.1 c523
    exact P
  · have P := P.2 c523
    refine mx_iconst (pc := 526) (v := (0 : Int32)) (mx_dd dd_L_law_5 27 (526, .iconst 0, 1) rfl) (by decide) ?_
    exact mx_ireturn (pc := 527) (mx_dd dd_L_law_5 28 (527, .ireturn, 1) rfl) rfl rfl P
theorem b_L_law_528 {d : Nat} {h : mxH} {Q : mxRes → mxH → Prop} (x1 : Nat) (x2 : Nat) (x3 : Nat) (x4 : Int32)
    (P : 1 ≤ d ∧ hpK h x1 = 11 ∧ mx_SM mY_X11_undoDepth (d - 1) [.ref x1] h (mx_KI (fun v1 h1 => hpK h1 x2 = 12 ∧ mx_SM mY_X12_undoDepth (d - 1) [.ref x2] h1 (mx_KI (fun v2 h2 => ((v1 = v2 → mx_SX mY_L_law d 1326 [(0, .ref 0), (1, .ref x1), (2, .ref x2), (3, .ref x3), (4, .int x4)] [] h2 Q) ∧ (¬ v1 = v2 → Q (.inl (some (.int (0 : Int32)))) h2))) (mx_XX mY_L_law Q))) (mx_XX mY_L_law Q))) : mx_SX mY_L_law d 528 [(0, .ref 0), (1, .ref x1), (2, .ref x2), (3, .ref x3), (4, .int x4)] [] h Q := by
  refine mx_aload_n (pc := 528) 1 (mx_dd dd_L_law_5 29 (528, .aload_n 1, 1) rfl) rfl rfl ?_
  obtain ⟨g1, P⟩ := P
  obtain ⟨g2, P⟩ := P
  refine mx_cVI (pc := 529) (Y := mY_X11_undoDepth) (As := []) mx_ml_L_113 mx_y_X11_undoDepth rfl g2 (by decide) rfl (by decide) rfl (mx_dd dd_L_law_5 30 (529, .invokevirtual 113, 3) rfl) g1 (by decide) P (fun v1 h1 P => ?_)
  refine mx_aload_n (pc := 532) 2 (mx_dd dd_L_law_5 31 (532, .aload_n 2, 1) rfl) rfl rfl ?_
  obtain ⟨g3, P⟩ := P
  refine mx_cVI (pc := 533) (Y := mY_X12_undoDepth) (As := []) mx_ml_L_116 mx_y_X12_undoDepth rfl g3 (by decide) rfl (by simp [Value.category]) rfl (mx_dd dd_L_law_5 32 (533, .invokevirtual 116, 3) rfl) g1 (by decide) P (fun v2 h2 P => ?_)
  refine mx_icmp_eq (pc := 536) 1326 (mx_dd dd_L_law_5 33 (536, .if_icmp .eq 790, 3) rfl) rfl (fun c536 => ?_) (fun c536 => ?_)
  · have P := P.1 c536
    exact P
  · have P := P.2 c536
    refine mx_iconst (pc := 539) (v := (0 : Int32)) (mx_dd dd_L_law_5 34 (539, .iconst 0, 1) rfl) (by decide) ?_
    exact mx_ireturn (pc := 540) (mx_dd dd_L_law_5 35 (540, .ireturn, 1) rfl) rfl rfl P
theorem b_L_law_541 {d : Nat} {h : mxH} {Q : mxRes → mxH → Prop} (x1 : Nat) (x2 : Nat) (x3 : Nat) (x4 : Int32)
    (P : vp_in (x4 + (1 : Int32)) (hpZ h 0) ∧ 1 ≤ d ∧ mx_SM mY_L_handleKind (d - 1) [.ref x1, .int (hpI h 0 (x4 + (1 : Int32)).toNatClampNeg), .ref x3] h (mx_KI (fun v1 h1 => vp_in (x4 + (1 : Int32)) (hpZ h1 0) ∧ hpK h1 x2 = 12 ∧ mx_SM mY_X12_handleKind (d - 1) [.ref x2, .int (hpI h1 0 (x4 + (1 : Int32)).toNatClampNeg)] h1 (mx_KI (fun v2 h2 => hpK h2 x2 = 12 ∧ mx_SM mY_X12_thrown (d - 1) [.ref x2] h2 (mx_KI (fun v3 h3 => ((v3 = v1 → ((¬ v1 = 0 → mx_SX mY_L_law d 594 [(0, .ref 0), (1, .ref x1), (2, .ref x2), (3, .ref x3), (4, .int x4)] [] h3 Q) ∧ (v1 = 0 → hpK h3 x3 = 15 ∧ vp_in (0 : Int32) (hpZ h3 x3) ∧ (((lg_cmp (hpL h3 x3 (0 : Int32).toNatClampNeg) (v2.toInt64)) = 0 → mx_SX mY_L_law d 594 [(0, .ref 0), (1, .ref x1), (2, .ref x2), (3, .ref x3), (4, .int x4)] [] h3 Q) ∧ (¬ (lg_cmp (hpL h3 x3 (0 : Int32).toNatClampNeg) (v2.toInt64)) = 0 → Q (.inl (some (.int (0 : Int32)))) h3))))) ∧ (¬ v3 = v1 → Q (.inl (some (.int (0 : Int32)))) h3))) (mx_XX mY_L_law Q))) (mx_XX mY_L_law Q))) (fun _ _ => False))) : mx_SX mY_L_law d 541 [(0, .ref 0), (1, .ref x1), (2, .ref x2), (3, .ref x3), (4, .int x4)] [] h Q := by
  refine mx_aload_n (pc := 541) 1 (mx_dd dd_L_law_5 36 (541, .aload_n 1, 1) rfl) rfl rfl ?_
  refine mx_aload_n (pc := 542) 0 (mx_dd dd_L_law_5 37 (542, .aload_n 0, 1) rfl) rfl rfl ?_
  refine mx_iload (pc := 543) 4 (mx_dd dd_L_law_5 38 (543, .iload 4, 2) rfl) rfl ?_
  refine mx_iconst (pc := 545) (v := (1 : Int32)) (mx_dd dd_L_law_5 39 (545, .iconst 1, 1) rfl) (by decide) ?_
  refine mx_iadd (pc := 546) (mx_dd dd_L_law_6 0 (546, .iadd, 1) rfl) ?_
  obtain ⟨g1, P⟩ := P
  refine mx_xiald (pc := 547) g1 (mx_dd dd_L_law_6 1 (547, .iaload, 1) rfl) ?_
  refine mx_aload_n (pc := 548) 3 (mx_dd dd_L_law_6 2 (548, .aload_n 3, 1) rfl) rfl rfl ?_
  obtain ⟨g2, P⟩ := P
  refine mx_cSWI (pc := 549) (Y := mY_L_handleKind) (As := [.ref _, .int _, .ref _]) mx_ml_L_117 mx_y_L_handleKind (by decide) rfl (by decide) rfl (mx_dd dd_L_law_6 3 (549, .invokestatic 117, 3) rfl) g2 (by decide) P (fun v1 h1 P => ?_)
  refine mx_istore (pc := 552) (mx_dd dd_L_law_6 4 (552, .istore 5, 2) rfl) (by decide) (lv' := [(5, _), (0, _), (1, _), (2, _), (3, _), (4, _)]) rfl ?_
  refine mx_aload_n (pc := 554) 3 (mx_dd dd_L_law_6 5 (554, .aload_n 2, 1) rfl) rfl rfl ?_
  refine mx_aload_n (pc := 555) 1 (mx_dd dd_L_law_6 6 (555, .aload_n 0, 1) rfl) rfl rfl ?_
  refine mx_iload (pc := 556) 5 (mx_dd dd_L_law_6 7 (556, .iload 4, 2) rfl) rfl ?_
  refine mx_iconst (pc := 558) (v := (1 : Int32)) (mx_dd dd_L_law_6 8 (558, .iconst 1, 1) rfl) (by decide) ?_
  refine mx_iadd (pc := 559) (mx_dd dd_L_law_6 9 (559, .iadd, 1) rfl) ?_
  obtain ⟨g3, P⟩ := P
  refine mx_xiald (pc := 560) g3 (mx_dd dd_L_law_6 10 (560, .iaload, 1) rfl) ?_
  obtain ⟨g4, P⟩ := P
  refine mx_cVI (pc := 561) (Y := mY_X12_handleKind) (As := [.int _]) mx_ml_L_120 mx_y_X12_handleKind rfl g4 (by decide) rfl (by decide) rfl (mx_dd dd_L_law_6 11 (561, .invokevirtual 120, 3) rfl) g2 (by decide) P (fun v2 h2 P => ?_)
  refine mx_istore (pc := 564) (mx_dd dd_L_law_6 12 (564, .istore 6, 2) rfl) (by decide) (lv' := [(6, _), (5, _), (0, _), (1, _), (2, _), (3, _), (4, _)]) rfl ?_
  refine mx_aload_n (pc := 566) 4 (mx_dd dd_L_law_6 13 (566, .aload_n 2, 1) rfl) rfl rfl ?_
  obtain ⟨g5, P⟩ := P
  refine mx_cVI (pc := 567) (Y := mY_X12_thrown) (As := []) mx_ml_L_66 mx_y_X12_thrown rfl g5 (by decide) rfl (by decide) rfl (mx_dd dd_L_law_6 14 (567, .invokevirtual 66, 3) rfl) g2 (by decide) P (fun v3 h3 P => ?_)
  refine mx_iload (pc := 570) 1 (mx_dd dd_L_law_6 15 (570, .iload 5, 2) rfl) rfl ?_
  refine mx_icmp_eq (pc := 572) 577 (mx_dd dd_L_law_6 16 (572, .if_icmp .eq 5, 3) rfl) rfl (fun c572 => ?_) (fun c572 => ?_)
  · have P := P.1 c572
    refine mx_iload (pc := 577) 1 (mx_dd dd_L_law_6 19 (577, .iload 5, 2) rfl) rfl ?_
    refine mx_if_ne (pc := 579) 594 (mx_dd dd_L_law_6 20 (579, .ifCond .ne 15, 3) rfl) rfl (fun c579 => ?_) (fun c579 => ?_)
    · have P := P.1 c579
      refine mx_sel [2, 3, 4, 5, 6] rfl ?_
      exact P
    · have P := P.2 c579
      refine mx_aload_n (pc := 582) 5 (mx_dd dd_L_law_6 21 (582, .aload_n 3, 1) rfl) rfl rfl ?_
      refine mx_iconst (pc := 583) (v := (0 : Int32)) (mx_dd dd_L_law_6 22 (583, .iconst 0, 1) rfl) (by decide) ?_
      obtain ⟨g6, P⟩ := P
      obtain ⟨g7, P⟩ := P
      refine mx_lald (pc := 584) g6 g7 (mx_dd dd_L_law_6 23 (584, .laload, 1) rfl) ?_
      refine mx_iload (pc := 585) 0 (mx_dd dd_L_law_6 24 (585, .iload 6, 2) rfl) rfl ?_
      refine mx_i2l (pc := 587) (mx_dd dd_L_law_6 25 (587, .i2l, 1) rfl) ?_
      refine mx_lcmp (pc := 588) (mx_dd dd_L_law_6 26 (588, .lcmp, 1) rfl) ?_
      refine mx_if_eq (pc := 589) 594 (mx_dd dd_L_law_6 27 (589, .ifCond .eq 5, 3) rfl) rfl (fun c589 => ?_) (fun c589 => ?_)
      · have P := P.1 c589
        refine mx_sel [2, 3, 4, 5, 6] rfl ?_
        exact P
      · have P := P.2 c589
        refine mx_iconst (pc := 592) (v := (0 : Int32)) (mx_dd dd_L_law_6 28 (592, .iconst 0, 1) rfl) (by decide) ?_
        exact mx_ireturn (pc := 593) (mx_dd dd_L_law_6 29 (593, .ireturn, 1) rfl) rfl rfl P
  · have P := P.2 c572
    refine mx_iconst (pc := 575) (v := (0 : Int32)) (mx_dd dd_L_law_6 17 (575, .iconst 0, 1) rfl) (by decide) ?_
    exact mx_ireturn (pc := 576) (mx_dd dd_L_law_6 18 (576, .ireturn, 1) rfl) rfl rfl P
theorem b_L_law_594 {d : Nat} {h : mxH} {Q : mxRes → mxH → Prop} (x1 : Nat) (x2 : Nat) (x3 : Nat) (x4 : Int32)
    (P : mx_SX mY_L_law d 1326 [(0, .ref 0), (1, .ref x1), (2, .ref x2), (3, .ref x3), (4, .int x4)] [] h Q) : mx_SX mY_L_law d 594 [(0, .ref 0), (1, .ref x1), (2, .ref x2), (3, .ref x3), (4, .int x4)] [] h Q := by
  refine mx_goto (pc := 594) 1326 (mx_dd dd_L_law_6 30 (594, .goto 732, 3) rfl) rfl ?_
  exact P
theorem b_L_law_597 {d : Nat} {h : mxH} {Q : mxRes → mxH → Prop} (x1 : Nat) (x2 : Nat) (x3 : Nat) (x4 : Int32)
    (P : 1 ≤ d ∧ hpK h x1 = 11 ∧ mx_SM mY_X11_variableCount (d - 1) [.ref x1] h (mx_KI (fun v1 h1 => hpK h1 x2 = 12 ∧ mx_SM mY_X12_variableCount (d - 1) [.ref x2] h1 (mx_KI (fun v2 h2 => ((v1 = v2 → mx_SX mY_L_law d 1326 [(0, .ref 0), (1, .ref x1), (2, .ref x2), (3, .ref x3), (4, .int x4)] [] h2 Q) ∧ (¬ v1 = v2 → Q (.inl (some (.int (0 : Int32)))) h2))) (mx_XX mY_L_law Q))) (mx_XX mY_L_law Q))) : mx_SX mY_L_law d 597 [(0, .ref 0), (1, .ref x1), (2, .ref x2), (3, .ref x3), (4, .int x4)] [] h Q := by
  refine mx_aload_n (pc := 597) 1 (mx_dd dd_L_law_6 31 (597, .aload_n 1, 1) rfl) rfl rfl ?_
  obtain ⟨g1, P⟩ := P
  obtain ⟨g2, P⟩ := P
  refine mx_cVI (pc := 598) (Y := mY_X11_variableCount) (As := []) mx_ml_L_121 mx_y_X11_variableCount rfl g2 (by decide) rfl (by decide) rfl (mx_dd dd_L_law_6 32 (598, .invokevirtual 121, 3) rfl) g1 (by decide) P (fun v1 h1 P => ?_)
  refine mx_aload_n (pc := 601) 2 (mx_dd dd_L_law_6 33 (601, .aload_n 2, 1) rfl) rfl rfl ?_
  obtain ⟨g3, P⟩ := P
  refine mx_cVI (pc := 602) (Y := mY_X12_variableCount) (As := []) mx_ml_L_124 mx_y_X12_variableCount rfl g3 (by decide) rfl (by simp [Value.category]) rfl (mx_dd dd_L_law_6 34 (602, .invokevirtual 124, 3) rfl) g1 (by decide) P (fun v2 h2 P => ?_)
  refine mx_icmp_eq (pc := 605) 1326 (mx_dd dd_L_law_6 35 (605, .if_icmp .eq 721, 3) rfl) rfl (fun c605 => ?_) (fun c605 => ?_)
  · have P := P.1 c605
    exact P
  · have P := P.2 c605
    refine mx_iconst (pc := 608) (v := (0 : Int32)) (mx_dd dd_L_law_6 36 (608, .iconst 0, 1) rfl) (by decide) ?_
    exact mx_ireturn (pc := 609) (mx_dd dd_L_law_6 37 (609, .ireturn, 1) rfl) rfl rfl P
theorem b_L_law_610 {d : Nat} {h : mxH} {Q : mxRes → mxH → Prop} (x1 : Nat) (x2 : Nat) (x3 : Nat) (x4 : Int32)
    (P : vp_in (x4 + (1 : Int32)) (hpZ h 0) ∧ vp_in (x4 + (2 : Int32)) (hpZ h 0) ∧ 1 ≤ d ∧ hpK h x1 = 11 ∧ mx_SM mY_X11_isSet (d - 1) [.ref x1, .long ((((hpI h 0 (x4 + (1 : Int32)).toNatClampNeg).toInt64) <<< ((32 : Int32).toInt64 &&& 63)) ||| (((hpI h 0 (x4 + (2 : Int32)).toNatClampNeg).toInt64) &&& (4294967295 : Int64)))] h (mx_KI (fun v1 h1 => vp_in (x4 + (1 : Int32)) (hpZ h1 0) ∧ vp_in (x4 + (2 : Int32)) (hpZ h1 0) ∧ hpK h1 x2 = 12 ∧ mx_SM mY_X12_isSet (d - 1) [.ref x2, .long ((((hpI h1 0 (x4 + (1 : Int32)).toNatClampNeg).toInt64) <<< ((32 : Int32).toInt64 &&& 63)) ||| (((hpI h1 0 (x4 + (2 : Int32)).toNatClampNeg).toInt64) &&& (4294967295 : Int64)))] h1 (mx_KI (fun v2 h2 => ((v1 = v2 → mx_SX mY_L_law d 1326 [(0, .ref 0), (1, .ref x1), (2, .ref x2), (3, .ref x3), (4, .int x4)] [] h2 Q) ∧ (¬ v1 = v2 → Q (.inl (some (.int (0 : Int32)))) h2))) (mx_XX mY_L_law Q))) (mx_XX mY_L_law Q))) : mx_SX mY_L_law d 610 [(0, .ref 0), (1, .ref x1), (2, .ref x2), (3, .ref x3), (4, .int x4)] [] h Q := by
  refine mx_aload_n (pc := 610) 1 (mx_dd dd_L_law_6 38 (610, .aload_n 1, 1) rfl) rfl rfl ?_
  refine mx_aload_n (pc := 611) 0 (mx_dd dd_L_law_6 39 (611, .aload_n 0, 1) rfl) rfl rfl ?_
  refine mx_iload (pc := 612) 4 (mx_dd dd_L_law_7 0 (612, .iload 4, 2) rfl) rfl ?_
  refine mx_iconst (pc := 614) (v := (1 : Int32)) (mx_dd dd_L_law_7 1 (614, .iconst 1, 1) rfl) (by decide) ?_
  refine mx_iadd (pc := 615) (mx_dd dd_L_law_7 2 (615, .iadd, 1) rfl) ?_
  obtain ⟨g1, P⟩ := P
  refine mx_xiald (pc := 616) g1 (mx_dd dd_L_law_7 3 (616, .iaload, 1) rfl) ?_
  refine mx_i2l (pc := 617) (mx_dd dd_L_law_7 4 (617, .i2l, 1) rfl) ?_
  refine mx_bipush (pc := 618) (v := (32 : Int32)) (mx_dd dd_L_law_7 5 (618, .bipush 32, 2) rfl) (by decide) ?_
  refine mx_lshl (pc := 620) (mx_dd dd_L_law_7 6 (620, .lshl, 1) rfl) ?_
  refine mx_aload_n (pc := 621) 0 (mx_dd dd_L_law_7 7 (621, .aload_n 0, 1) rfl) rfl rfl ?_
  refine mx_iload (pc := 622) 4 (mx_dd dd_L_law_7 8 (622, .iload 4, 2) rfl) rfl ?_
  refine mx_iconst (pc := 624) (v := (2 : Int32)) (mx_dd dd_L_law_7 9 (624, .iconst 2, 1) rfl) (by decide) ?_
  refine mx_iadd (pc := 625) (mx_dd dd_L_law_7 10 (625, .iadd, 1) rfl) ?_
  obtain ⟨g2, P⟩ := P
  refine mx_xiald (pc := 626) g2 (mx_dd dd_L_law_7 11 (626, .iaload, 1) rfl) ?_
  refine mx_i2l (pc := 627) (mx_dd dd_L_law_7 12 (627, .i2l, 1) rfl) ?_
  refine mx_ldc2 (pc := 628) mx_cL_L_125 (mx_dd dd_L_law_7 13 (628, .ldc2_w 125, 3) rfl) ?_
  refine mx_land (pc := 631) (mx_dd dd_L_law_7 14 (631, .land, 1) rfl) ?_
  refine mx_lor (pc := 632) (mx_dd dd_L_law_7 15 (632, .lor, 1) rfl) ?_
  obtain ⟨g3, P⟩ := P
  obtain ⟨g4, P⟩ := P
  refine mx_cVI (pc := 633) (Y := mY_X11_isSet) (As := [.long _]) mx_ml_L_127 mx_y_X11_isSet rfl g4 (by decide) rfl (by decide) rfl (mx_dd dd_L_law_7 16 (633, .invokevirtual 127, 3) rfl) g3 (by decide) P (fun v1 h1 P => ?_)
  refine mx_aload_n (pc := 636) 2 (mx_dd dd_L_law_7 17 (636, .aload_n 2, 1) rfl) rfl rfl ?_
  refine mx_aload_n (pc := 637) 0 (mx_dd dd_L_law_7 18 (637, .aload_n 0, 1) rfl) rfl rfl ?_
  refine mx_iload (pc := 638) 4 (mx_dd dd_L_law_7 19 (638, .iload 4, 2) rfl) rfl ?_
  refine mx_iconst (pc := 640) (v := (1 : Int32)) (mx_dd dd_L_law_7 20 (640, .iconst 1, 1) rfl) (by decide) ?_
  refine mx_iadd (pc := 641) (mx_dd dd_L_law_7 21 (641, .iadd, 1) rfl) ?_
  obtain ⟨g5, P⟩ := P
  refine mx_xiald (pc := 642) g5 (mx_dd dd_L_law_7 22 (642, .iaload, 1) rfl) ?_
  refine mx_i2l (pc := 643) (mx_dd dd_L_law_7 23 (643, .i2l, 1) rfl) ?_
  refine mx_bipush (pc := 644) (v := (32 : Int32)) (mx_dd dd_L_law_7 24 (644, .bipush 32, 2) rfl) (by decide) ?_
  refine mx_lshl (pc := 646) (mx_dd dd_L_law_7 25 (646, .lshl, 1) rfl) ?_
  refine mx_aload_n (pc := 647) 0 (mx_dd dd_L_law_7 26 (647, .aload_n 0, 1) rfl) rfl rfl ?_
  refine mx_iload (pc := 648) 4 (mx_dd dd_L_law_7 27 (648, .iload 4, 2) rfl) rfl ?_
  refine mx_iconst (pc := 650) (v := (2 : Int32)) (mx_dd dd_L_law_7 28 (650, .iconst 2, 1) rfl) (by decide) ?_
  refine mx_iadd (pc := 651) (mx_dd dd_L_law_7 29 (651, .iadd, 1) rfl) ?_
  obtain ⟨g6, P⟩ := P
  refine mx_xiald (pc := 652) g6 (mx_dd dd_L_law_7 30 (652, .iaload, 1) rfl) ?_
  refine mx_i2l (pc := 653) (mx_dd dd_L_law_7 31 (653, .i2l, 1) rfl) ?_
  refine mx_ldc2 (pc := 654) mx_cL_L_125 (mx_dd dd_L_law_7 32 (654, .ldc2_w 125, 3) rfl) ?_
  refine mx_land (pc := 657) (mx_dd dd_L_law_7 33 (657, .land, 1) rfl) ?_
  refine mx_lor (pc := 658) (mx_dd dd_L_law_7 34 (658, .lor, 1) rfl) ?_
  obtain ⟨g7, P⟩ := P
  refine mx_cVI (pc := 659) (Y := mY_X12_isSet) (As := [.long _]) mx_ml_L_131 mx_y_X12_isSet rfl g7 (by decide) rfl (by simp [Value.category]) rfl (mx_dd dd_L_law_7 35 (659, .invokevirtual 131, 3) rfl) g3 (by decide) P (fun v2 h2 P => ?_)
  refine mx_icmp_eq (pc := 662) 1326 (mx_dd dd_L_law_7 36 (662, .if_icmp .eq 664, 3) rfl) rfl (fun c662 => ?_) (fun c662 => ?_)
  · have P := P.1 c662
    exact P
  · have P := P.2 c662
    refine mx_iconst (pc := 665) (v := (0 : Int32)) (mx_dd dd_L_law_7 37 (665, .iconst 0, 1) rfl) (by decide) ?_
    exact mx_ireturn (pc := 666) (mx_dd dd_L_law_7 38 (666, .ireturn, 1) rfl) rfl rfl P
theorem b_L_law_667 {d : Nat} {h : mxH} {Q : mxRes → mxH → Prop} (x1 : Nat) (x2 : Nat) (x3 : Nat) (x4 : Int32)
    (P : 1 ≤ d ∧ hpK h x1 = 11 ∧ mx_SM mY_X11_functionCount (d - 1) [.ref x1] h (mx_KI (fun v1 h1 => hpK h1 x2 = 12 ∧ mx_SM mY_X12_functionCount (d - 1) [.ref x2] h1 (mx_KI (fun v2 h2 => ((v1 = v2 → mx_SX mY_L_law d 1326 [(0, .ref 0), (1, .ref x1), (2, .ref x2), (3, .ref x3), (4, .int x4)] [] h2 Q) ∧ (¬ v1 = v2 → Q (.inl (some (.int (0 : Int32)))) h2))) (mx_XX mY_L_law Q))) (mx_XX mY_L_law Q))) : mx_SX mY_L_law d 667 [(0, .ref 0), (1, .ref x1), (2, .ref x2), (3, .ref x3), (4, .int x4)] [] h Q := by
  refine mx_aload_n (pc := 667) 1 (mx_dd dd_L_law_7 39 (667, .aload_n 1, 1) rfl) rfl rfl ?_
  obtain ⟨g1, P⟩ := P
  obtain ⟨g2, P⟩ := P
  refine mx_cVI (pc := 668) (Y := mY_X11_functionCount) (As := []) mx_ml_L_132 mx_y_X11_functionCount rfl g2 (by decide) rfl (by decide) rfl (mx_dd dd_L_law_8 0 (668, .invokevirtual 132, 3) rfl) g1 (by decide) P (fun v1 h1 P => ?_)
  refine mx_aload_n (pc := 671) 2 (mx_dd dd_L_law_8 1 (671, .aload_n 2, 1) rfl) rfl rfl ?_
  obtain ⟨g3, P⟩ := P
  refine mx_cVI (pc := 672) (Y := mY_X12_functionCount) (As := []) mx_ml_L_135 mx_y_X12_functionCount rfl g3 (by decide) rfl (by simp [Value.category]) rfl (mx_dd dd_L_law_8 2 (672, .invokevirtual 135, 3) rfl) g1 (by decide) P (fun v2 h2 P => ?_)
  refine mx_icmp_eq (pc := 675) 1326 (mx_dd dd_L_law_8 3 (675, .if_icmp .eq 651, 3) rfl) rfl (fun c675 => ?_) (fun c675 => ?_)
  · have P := P.1 c675
    exact P
  · have P := P.2 c675
    refine mx_iconst (pc := 678) (v := (0 : Int32)) (mx_dd dd_L_law_8 4 (678, .iconst 0, 1) rfl) (by decide) ?_
    exact mx_ireturn (pc := 679) (mx_dd dd_L_law_8 5 (679, .ireturn, 1) rfl) rfl rfl P
theorem b_L_law_680 {d : Nat} {h : mxH} {Q : mxRes → mxH → Prop} (x1 : Nat) (x2 : Nat) (x3 : Nat) (x4 : Int32)
    (P : vp_in (x4 + (1 : Int32)) (hpZ h 0) ∧ vp_in (x4 + (2 : Int32)) (hpZ h 0) ∧ 1 ≤ d ∧ hpK h x1 = 11 ∧ mx_SM mY_X11_isDefined (d - 1) [.ref x1, .long ((((hpI h 0 (x4 + (1 : Int32)).toNatClampNeg).toInt64) <<< ((32 : Int32).toInt64 &&& 63)) ||| (((hpI h 0 (x4 + (2 : Int32)).toNatClampNeg).toInt64) &&& (4294967295 : Int64)))] h (mx_KI (fun v1 h1 => vp_in (x4 + (1 : Int32)) (hpZ h1 0) ∧ vp_in (x4 + (2 : Int32)) (hpZ h1 0) ∧ hpK h1 x2 = 12 ∧ mx_SM mY_X12_isDefined (d - 1) [.ref x2, .long ((((hpI h1 0 (x4 + (1 : Int32)).toNatClampNeg).toInt64) <<< ((32 : Int32).toInt64 &&& 63)) ||| (((hpI h1 0 (x4 + (2 : Int32)).toNatClampNeg).toInt64) &&& (4294967295 : Int64)))] h1 (mx_KI (fun v2 h2 => ((v1 = v2 → mx_SX mY_L_law d 1326 [(0, .ref 0), (1, .ref x1), (2, .ref x2), (3, .ref x3), (4, .int x4)] [] h2 Q) ∧ (¬ v1 = v2 → Q (.inl (some (.int (0 : Int32)))) h2))) (mx_XX mY_L_law Q))) (mx_XX mY_L_law Q))) : mx_SX mY_L_law d 680 [(0, .ref 0), (1, .ref x1), (2, .ref x2), (3, .ref x3), (4, .int x4)] [] h Q := by
  refine mx_aload_n (pc := 680) 1 (mx_dd dd_L_law_8 6 (680, .aload_n 1, 1) rfl) rfl rfl ?_
  refine mx_aload_n (pc := 681) 0 (mx_dd dd_L_law_8 7 (681, .aload_n 0, 1) rfl) rfl rfl ?_
  refine mx_iload (pc := 682) 4 (mx_dd dd_L_law_8 8 (682, .iload 4, 2) rfl) rfl ?_
  refine mx_iconst (pc := 684) (v := (1 : Int32)) (mx_dd dd_L_law_8 9 (684, .iconst 1, 1) rfl) (by decide) ?_
  refine mx_iadd (pc := 685) (mx_dd dd_L_law_8 10 (685, .iadd, 1) rfl) ?_
  obtain ⟨g1, P⟩ := P
  refine mx_xiald (pc := 686) g1 (mx_dd dd_L_law_8 11 (686, .iaload, 1) rfl) ?_
  refine mx_i2l (pc := 687) (mx_dd dd_L_law_8 12 (687, .i2l, 1) rfl) ?_
  refine mx_bipush (pc := 688) (v := (32 : Int32)) (mx_dd dd_L_law_8 13 (688, .bipush 32, 2) rfl) (by decide) ?_
  refine mx_lshl (pc := 690) (mx_dd dd_L_law_8 14 (690, .lshl, 1) rfl) ?_
  refine mx_aload_n (pc := 691) 0 (mx_dd dd_L_law_8 15 (691, .aload_n 0, 1) rfl) rfl rfl ?_
  refine mx_iload (pc := 692) 4 (mx_dd dd_L_law_8 16 (692, .iload 4, 2) rfl) rfl ?_
  refine mx_iconst (pc := 694) (v := (2 : Int32)) (mx_dd dd_L_law_8 17 (694, .iconst 2, 1) rfl) (by decide) ?_
  refine mx_iadd (pc := 695) (mx_dd dd_L_law_8 18 (695, .iadd, 1) rfl) ?_
  obtain ⟨g2, P⟩ := P
  refine mx_xiald (pc := 696) g2 (mx_dd dd_L_law_8 19 (696, .iaload, 1) rfl) ?_
  refine mx_i2l (pc := 697) (mx_dd dd_L_law_8 20 (697, .i2l, 1) rfl) ?_
  refine mx_ldc2 (pc := 698) mx_cL_L_125 (mx_dd dd_L_law_8 21 (698, .ldc2_w 125, 3) rfl) ?_
  refine mx_land (pc := 701) (mx_dd dd_L_law_8 22 (701, .land, 1) rfl) ?_
  refine mx_lor (pc := 702) (mx_dd dd_L_law_8 23 (702, .lor, 1) rfl) ?_
  obtain ⟨g3, P⟩ := P
  obtain ⟨g4, P⟩ := P
  refine mx_cVI (pc := 703) (Y := mY_X11_isDefined) (As := [.long _]) mx_ml_L_136 mx_y_X11_isDefined rfl g4 (by decide) rfl (by decide) rfl (mx_dd dd_L_law_8 24 (703, .invokevirtual 136, 3) rfl) g3 (by decide) P (fun v1 h1 P => ?_)
  refine mx_aload_n (pc := 706) 2 (mx_dd dd_L_law_8 25 (706, .aload_n 2, 1) rfl) rfl rfl ?_
  refine mx_aload_n (pc := 707) 0 (mx_dd dd_L_law_8 26 (707, .aload_n 0, 1) rfl) rfl rfl ?_
  refine mx_iload (pc := 708) 4 (mx_dd dd_L_law_8 27 (708, .iload 4, 2) rfl) rfl ?_
  refine mx_iconst (pc := 710) (v := (1 : Int32)) (mx_dd dd_L_law_8 28 (710, .iconst 1, 1) rfl) (by decide) ?_
  refine mx_iadd (pc := 711) (mx_dd dd_L_law_8 29 (711, .iadd, 1) rfl) ?_
  obtain ⟨g5, P⟩ := P
  refine mx_xiald (pc := 712) g5 (mx_dd dd_L_law_8 30 (712, .iaload, 1) rfl) ?_
  refine mx_i2l (pc := 713) (mx_dd dd_L_law_8 31 (713, .i2l, 1) rfl) ?_
  refine mx_bipush (pc := 714) (v := (32 : Int32)) (mx_dd dd_L_law_8 32 (714, .bipush 32, 2) rfl) (by decide) ?_
  refine mx_lshl (pc := 716) (mx_dd dd_L_law_8 33 (716, .lshl, 1) rfl) ?_
  refine mx_aload_n (pc := 717) 0 (mx_dd dd_L_law_8 34 (717, .aload_n 0, 1) rfl) rfl rfl ?_
  refine mx_iload (pc := 718) 4 (mx_dd dd_L_law_8 35 (718, .iload 4, 2) rfl) rfl ?_
  refine mx_iconst (pc := 720) (v := (2 : Int32)) (mx_dd dd_L_law_8 36 (720, .iconst 2, 1) rfl) (by decide) ?_
  refine mx_iadd (pc := 721) (mx_dd dd_L_law_8 37 (721, .iadd, 1) rfl) ?_
  obtain ⟨g6, P⟩ := P
  refine mx_xiald (pc := 722) g6 (mx_dd dd_L_law_8 38 (722, .iaload, 1) rfl) ?_
  refine mx_i2l (pc := 723) (mx_dd dd_L_law_8 39 (723, .i2l, 1) rfl) ?_
  refine mx_ldc2 (pc := 724) mx_cL_L_125 (mx_dd dd_L_law_9 0 (724, .ldc2_w 125, 3) rfl) ?_
  refine mx_land (pc := 727) (mx_dd dd_L_law_9 1 (727, .land, 1) rfl) ?_
  refine mx_lor (pc := 728) (mx_dd dd_L_law_9 2 (728, .lor, 1) rfl) ?_
  obtain ⟨g7, P⟩ := P
  refine mx_cVI (pc := 729) (Y := mY_X12_isDefined) (As := [.long _]) mx_ml_L_139 mx_y_X12_isDefined rfl g7 (by decide) rfl (by simp [Value.category]) rfl (mx_dd dd_L_law_9 3 (729, .invokevirtual 139, 3) rfl) g3 (by decide) P (fun v2 h2 P => ?_)
  refine mx_icmp_eq (pc := 732) 1326 (mx_dd dd_L_law_9 4 (732, .if_icmp .eq 594, 3) rfl) rfl (fun c732 => ?_) (fun c732 => ?_)
  · have P := P.1 c732
    exact P
  · have P := P.2 c732
    refine mx_iconst (pc := 735) (v := (0 : Int32)) (mx_dd dd_L_law_9 5 (735, .iconst 0, 1) rfl) (by decide) ?_
    exact mx_ireturn (pc := 736) (mx_dd dd_L_law_9 6 (736, .ireturn, 1) rfl) rfl rfl P
theorem b_L_law_737 {d : Nat} {h : mxH} {Q : mxRes → mxH → Prop} (x1 : Nat) (x2 : Nat) (x3 : Nat) (x4 : Int32)
    (P : vp_in (x4 + (1 : Int32)) (hpZ h 0) ∧ 1 ≤ d ∧ mx_SM mY_L_actionOf (d - 1) [.ref x1, .int (hpI h 0 (x4 + (1 : Int32)).toNatClampNeg), .ref x3] h (mx_KI (fun v1 h1 => vp_in (x4 + (1 : Int32)) (hpZ h1 0) ∧ hpK h1 x2 = 12 ∧ mx_SM mY_X12_actionOf (d - 1) [.ref x2, .int (hpI h1 0 (x4 + (1 : Int32)).toNatClampNeg)] h1 (mx_KL (fun v2 h2 => hpK h2 x2 = 12 ∧ mx_SM mY_X12_thrown (d - 1) [.ref x2] h2 (mx_KI (fun v3 h3 => ((v3 = v1 → ((¬ v1 = 0 → mx_SX mY_L_law d 789 [(0, .ref 0), (1, .ref x1), (2, .ref x2), (3, .ref x3), (4, .int x4)] [] h3 Q) ∧ (v1 = 0 → hpK h3 x3 = 15 ∧ vp_in (0 : Int32) (hpZ h3 x3) ∧ (((lg_cmp (hpL h3 x3 (0 : Int32).toNatClampNeg) v2) = 0 → mx_SX mY_L_law d 789 [(0, .ref 0), (1, .ref x1), (2, .ref x2), (3, .ref x3), (4, .int x4)] [] h3 Q) ∧ (¬ (lg_cmp (hpL h3 x3 (0 : Int32).toNatClampNeg) v2) = 0 → Q (.inl (some (.int (0 : Int32)))) h3))))) ∧ (¬ v3 = v1 → Q (.inl (some (.int (0 : Int32)))) h3))) (mx_XX mY_L_law Q))) (mx_XX mY_L_law Q))) (fun _ _ => False))) : mx_SX mY_L_law d 737 [(0, .ref 0), (1, .ref x1), (2, .ref x2), (3, .ref x3), (4, .int x4)] [] h Q := by
  refine mx_aload_n (pc := 737) 1 (mx_dd dd_L_law_9 7 (737, .aload_n 1, 1) rfl) rfl rfl ?_
  refine mx_aload_n (pc := 738) 0 (mx_dd dd_L_law_9 8 (738, .aload_n 0, 1) rfl) rfl rfl ?_
  refine mx_iload (pc := 739) 4 (mx_dd dd_L_law_9 9 (739, .iload 4, 2) rfl) rfl ?_
  refine mx_iconst (pc := 741) (v := (1 : Int32)) (mx_dd dd_L_law_9 10 (741, .iconst 1, 1) rfl) (by decide) ?_
  refine mx_iadd (pc := 742) (mx_dd dd_L_law_9 11 (742, .iadd, 1) rfl) ?_
  obtain ⟨g1, P⟩ := P
  refine mx_xiald (pc := 743) g1 (mx_dd dd_L_law_9 12 (743, .iaload, 1) rfl) ?_
  refine mx_aload_n (pc := 744) 3 (mx_dd dd_L_law_9 13 (744, .aload_n 3, 1) rfl) rfl rfl ?_
  obtain ⟨g2, P⟩ := P
  refine mx_cSWI (pc := 745) (Y := mY_L_actionOf) (As := [.ref _, .int _, .ref _]) mx_ml_L_140 mx_y_L_actionOf (by decide) rfl (by decide) rfl (mx_dd dd_L_law_9 14 (745, .invokestatic 140, 3) rfl) g2 (by decide) P (fun v1 h1 P => ?_)
  refine mx_istore (pc := 748) (mx_dd dd_L_law_9 15 (748, .istore 5, 2) rfl) (by decide) (lv' := [(5, _), (0, _), (1, _), (2, _), (3, _), (4, _)]) rfl ?_
  refine mx_aload_n (pc := 750) 3 (mx_dd dd_L_law_9 16 (750, .aload_n 2, 1) rfl) rfl rfl ?_
  refine mx_aload_n (pc := 751) 1 (mx_dd dd_L_law_9 17 (751, .aload_n 0, 1) rfl) rfl rfl ?_
  refine mx_iload (pc := 752) 5 (mx_dd dd_L_law_9 18 (752, .iload 4, 2) rfl) rfl ?_
  refine mx_iconst (pc := 754) (v := (1 : Int32)) (mx_dd dd_L_law_9 19 (754, .iconst 1, 1) rfl) (by decide) ?_
  refine mx_iadd (pc := 755) (mx_dd dd_L_law_9 20 (755, .iadd, 1) rfl) ?_
  obtain ⟨g3, P⟩ := P
  refine mx_xiald (pc := 756) g3 (mx_dd dd_L_law_9 21 (756, .iaload, 1) rfl) ?_
  obtain ⟨g4, P⟩ := P
  refine mx_cVL (pc := 757) (Y := mY_X12_actionOf) (As := [.int _]) mx_ml_L_142 mx_y_X12_actionOf rfl g4 (by decide) rfl (by decide) rfl (mx_dd dd_L_law_9 22 (757, .invokevirtual 142, 3) rfl) g2 (by decide) P (fun v2 h2 P => ?_)
  refine mx_lstore (pc := 760) (mx_dd dd_L_law_9 23 (760, .lstore 6, 2) rfl) (by decide) (lv' := [(6, _), (5, _), (0, _), (1, _), (2, _), (3, _), (4, _)]) rfl ?_
  refine mx_aload_n (pc := 762) 4 (mx_dd dd_L_law_9 24 (762, .aload_n 2, 1) rfl) rfl rfl ?_
  obtain ⟨g5, P⟩ := P
  refine mx_cVI (pc := 763) (Y := mY_X12_thrown) (As := []) mx_ml_L_66 mx_y_X12_thrown rfl g5 (by decide) rfl (by decide) rfl (mx_dd dd_L_law_9 25 (763, .invokevirtual 66, 3) rfl) g2 (by decide) P (fun v3 h3 P => ?_)
  refine mx_iload (pc := 766) 1 (mx_dd dd_L_law_9 26 (766, .iload 5, 2) rfl) rfl ?_
  refine mx_icmp_eq (pc := 768) 773 (mx_dd dd_L_law_9 27 (768, .if_icmp .eq 5, 3) rfl) rfl (fun c768 => ?_) (fun c768 => ?_)
  · have P := P.1 c768
    refine mx_iload (pc := 773) 1 (mx_dd dd_L_law_9 30 (773, .iload 5, 2) rfl) rfl ?_
    refine mx_if_ne (pc := 775) 789 (mx_dd dd_L_law_9 31 (775, .ifCond .ne 14, 3) rfl) rfl (fun c775 => ?_) (fun c775 => ?_)
    · have P := P.1 c775
      refine mx_sel [2, 3, 4, 5, 6] rfl ?_
      exact P
    · have P := P.2 c775
      refine mx_aload_n (pc := 778) 5 (mx_dd dd_L_law_9 32 (778, .aload_n 3, 1) rfl) rfl rfl ?_
      refine mx_iconst (pc := 779) (v := (0 : Int32)) (mx_dd dd_L_law_9 33 (779, .iconst 0, 1) rfl) (by decide) ?_
      obtain ⟨g6, P⟩ := P
      obtain ⟨g7, P⟩ := P
      refine mx_lald (pc := 780) g6 g7 (mx_dd dd_L_law_9 34 (780, .laload, 1) rfl) ?_
      refine mx_lload (pc := 781) 0 (mx_dd dd_L_law_9 35 (781, .lload 6, 2) rfl) rfl ?_
      refine mx_lcmp (pc := 783) (mx_dd dd_L_law_9 36 (783, .lcmp, 1) rfl) ?_
      refine mx_if_eq (pc := 784) 789 (mx_dd dd_L_law_9 37 (784, .ifCond .eq 5, 3) rfl) rfl (fun c784 => ?_) (fun c784 => ?_)
      · have P := P.1 c784
        refine mx_sel [2, 3, 4, 5, 6] rfl ?_
        exact P
      · have P := P.2 c784
        refine mx_iconst (pc := 787) (v := (0 : Int32)) (mx_dd dd_L_law_9 38 (787, .iconst 0, 1) rfl) (by decide) ?_
        exact mx_ireturn (pc := 788) (mx_dd dd_L_law_9 39 (788, .ireturn, 1) rfl) rfl rfl P
  · have P := P.2 c768
    refine mx_iconst (pc := 771) (v := (0 : Int32)) (mx_dd dd_L_law_9 28 (771, .iconst 0, 1) rfl) (by decide) ?_
    exact mx_ireturn (pc := 772) (mx_dd dd_L_law_9 29 (772, .ireturn, 1) rfl) rfl rfl P
theorem b_L_law_789 {d : Nat} {h : mxH} {Q : mxRes → mxH → Prop} (x1 : Nat) (x2 : Nat) (x3 : Nat) (x4 : Int32)
    (P : mx_SX mY_L_law d 1326 [(0, .ref 0), (1, .ref x1), (2, .ref x2), (3, .ref x3), (4, .int x4)] [] h Q) : mx_SX mY_L_law d 789 [(0, .ref 0), (1, .ref x1), (2, .ref x2), (3, .ref x3), (4, .int x4)] [] h Q := by
  refine mx_goto (pc := 789) 1326 (mx_dd dd_L_law_10 0 (789, .goto 537, 3) rfl) rfl ?_
  exact P
theorem b_L_law_792 {d : Nat} {h : mxH} {Q : mxRes → mxH → Prop} (x1 : Nat) (x2 : Nat) (x3 : Nat) (x4 : Int32)
    (P : 1 ≤ d ∧ hpK h x1 = 11 ∧ mx_SM mY_X11_isPipefail (d - 1) [.ref x1] h (mx_KI (fun v1 h1 => hpK h1 x2 = 12 ∧ mx_SM mY_X12_isPipefail (d - 1) [.ref x2] h1 (mx_KI (fun v2 h2 => ((v1 = v2 → mx_SX mY_L_law d 1326 [(0, .ref 0), (1, .ref x1), (2, .ref x2), (3, .ref x3), (4, .int x4)] [] h2 Q) ∧ (¬ v1 = v2 → Q (.inl (some (.int (0 : Int32)))) h2))) (mx_XX mY_L_law Q))) (mx_XX mY_L_law Q))) : mx_SX mY_L_law d 792 [(0, .ref 0), (1, .ref x1), (2, .ref x2), (3, .ref x3), (4, .int x4)] [] h Q := by
  refine mx_aload_n (pc := 792) 1 (mx_dd dd_L_law_10 1 (792, .aload_n 1, 1) rfl) rfl rfl ?_
  obtain ⟨g1, P⟩ := P
  obtain ⟨g2, P⟩ := P
  refine mx_cVI (pc := 793) (Y := mY_X11_isPipefail) (As := []) mx_ml_L_143 mx_y_X11_isPipefail rfl g2 (by decide) rfl (by decide) rfl (mx_dd dd_L_law_10 2 (793, .invokevirtual 143, 3) rfl) g1 (by decide) P (fun v1 h1 P => ?_)
  refine mx_aload_n (pc := 796) 2 (mx_dd dd_L_law_10 3 (796, .aload_n 2, 1) rfl) rfl rfl ?_
  obtain ⟨g3, P⟩ := P
  refine mx_cVI (pc := 797) (Y := mY_X12_isPipefail) (As := []) mx_ml_L_146 mx_y_X12_isPipefail rfl g3 (by decide) rfl (by simp [Value.category]) rfl (mx_dd dd_L_law_10 4 (797, .invokevirtual 146, 3) rfl) g1 (by decide) P (fun v2 h2 P => ?_)
  refine mx_icmp_eq (pc := 800) 1326 (mx_dd dd_L_law_10 5 (800, .if_icmp .eq 526, 3) rfl) rfl (fun c800 => ?_) (fun c800 => ?_)
  · have P := P.1 c800
    exact P
  · have P := P.2 c800
    refine mx_iconst (pc := 803) (v := (0 : Int32)) (mx_dd dd_L_law_10 6 (803, .iconst 0, 1) rfl) (by decide) ?_
    exact mx_ireturn (pc := 804) (mx_dd dd_L_law_10 7 (804, .ireturn, 1) rfl) rfl rfl P
theorem b_L_law_805 {d : Nat} {h : mxH} {Q : mxRes → mxH → Prop} (x1 : Nat) (x2 : Nat) (x3 : Nat) (x4 : Int32)
    (P : 1 ≤ d ∧ hpK h x1 = 11 ∧ mx_SM mY_X11_fileCount (d - 1) [.ref x1] h (mx_KI (fun v1 h1 => hpK h1 x2 = 12 ∧ mx_SM mY_X12_fileCount (d - 1) [.ref x2] h1 (mx_KI (fun v2 h2 => ((v1 = v2 → mx_SX mY_L_law d 1326 [(0, .ref 0), (1, .ref x1), (2, .ref x2), (3, .ref x3), (4, .int x4)] [] h2 Q) ∧ (¬ v1 = v2 → Q (.inl (some (.int (0 : Int32)))) h2))) (mx_XX mY_L_law Q))) (mx_XX mY_L_law Q))) : mx_SX mY_L_law d 805 [(0, .ref 0), (1, .ref x1), (2, .ref x2), (3, .ref x3), (4, .int x4)] [] h Q := by
  refine mx_aload_n (pc := 805) 1 (mx_dd dd_L_law_10 8 (805, .aload_n 1, 1) rfl) rfl rfl ?_
  obtain ⟨g1, P⟩ := P
  obtain ⟨g2, P⟩ := P
  refine mx_cVI (pc := 806) (Y := mY_X11_fileCount) (As := []) mx_ml_L_147 mx_y_X11_fileCount rfl g2 (by decide) rfl (by decide) rfl (mx_dd dd_L_law_10 9 (806, .invokevirtual 147, 3) rfl) g1 (by decide) P (fun v1 h1 P => ?_)
  refine mx_aload_n (pc := 809) 2 (mx_dd dd_L_law_10 10 (809, .aload_n 2, 1) rfl) rfl rfl ?_
  obtain ⟨g3, P⟩ := P
  refine mx_cVI (pc := 810) (Y := mY_X12_fileCount) (As := []) mx_ml_L_150 mx_y_X12_fileCount rfl g3 (by decide) rfl (by simp [Value.category]) rfl (mx_dd dd_L_law_10 11 (810, .invokevirtual 150, 3) rfl) g1 (by decide) P (fun v2 h2 P => ?_)
  refine mx_icmp_eq (pc := 813) 1326 (mx_dd dd_L_law_10 12 (813, .if_icmp .eq 513, 3) rfl) rfl (fun c813 => ?_) (fun c813 => ?_)
  · have P := P.1 c813
    exact P
  · have P := P.2 c813
    refine mx_iconst (pc := 816) (v := (0 : Int32)) (mx_dd dd_L_law_10 13 (816, .iconst 0, 1) rfl) (by decide) ?_
    exact mx_ireturn (pc := 817) (mx_dd dd_L_law_10 14 (817, .ireturn, 1) rfl) rfl rfl P
theorem b_L_law_818 {d : Nat} {h : mxH} {Q : mxRes → mxH → Prop} (x1 : Nat) (x2 : Nat) (x3 : Nat) (x4 : Int32)
    (P : vp_in (x4 + (1 : Int32)) (hpZ h 0) ∧ vp_in (x4 + (2 : Int32)) (hpZ h 0) ∧ 1 ≤ d ∧ hpK h x1 = 11 ∧ mx_SM mY_X11_fileNamed (d - 1) [.ref x1, .long ((((hpI h 0 (x4 + (1 : Int32)).toNatClampNeg).toInt64) <<< ((32 : Int32).toInt64 &&& 63)) ||| (((hpI h 0 (x4 + (2 : Int32)).toNatClampNeg).toInt64) &&& (4294967295 : Int64)))] h (mx_KI (fun v1 h1 => vp_in (x4 + (1 : Int32)) (hpZ h1 0) ∧ vp_in (x4 + (2 : Int32)) (hpZ h1 0) ∧ hpK h1 x2 = 12 ∧ mx_SM mY_X12_fileNamed (d - 1) [.ref x2, .long ((((hpI h1 0 (x4 + (1 : Int32)).toNatClampNeg).toInt64) <<< ((32 : Int32).toInt64 &&& 63)) ||| (((hpI h1 0 (x4 + (2 : Int32)).toNatClampNeg).toInt64) &&& (4294967295 : Int64)))] h1 (mx_KI (fun v2 h2 => ((v1 = v2 → mx_SX mY_L_law d 1326 [(0, .ref 0), (1, .ref x1), (2, .ref x2), (3, .ref x3), (4, .int x4)] [] h2 Q) ∧ (¬ v1 = v2 → Q (.inl (some (.int (0 : Int32)))) h2))) (mx_XX mY_L_law Q))) (mx_XX mY_L_law Q))) : mx_SX mY_L_law d 818 [(0, .ref 0), (1, .ref x1), (2, .ref x2), (3, .ref x3), (4, .int x4)] [] h Q := by
  refine mx_aload_n (pc := 818) 1 (mx_dd dd_L_law_10 15 (818, .aload_n 1, 1) rfl) rfl rfl ?_
  refine mx_aload_n (pc := 819) 0 (mx_dd dd_L_law_10 16 (819, .aload_n 0, 1) rfl) rfl rfl ?_
  refine mx_iload (pc := 820) 4 (mx_dd dd_L_law_10 17 (820, .iload 4, 2) rfl) rfl ?_
  refine mx_iconst (pc := 822) (v := (1 : Int32)) (mx_dd dd_L_law_10 18 (822, .iconst 1, 1) rfl) (by decide) ?_
  refine mx_iadd (pc := 823) (mx_dd dd_L_law_10 19 (823, .iadd, 1) rfl) ?_
  obtain ⟨g1, P⟩ := P
  refine mx_xiald (pc := 824) g1 (mx_dd dd_L_law_10 20 (824, .iaload, 1) rfl) ?_
  refine mx_i2l (pc := 825) (mx_dd dd_L_law_10 21 (825, .i2l, 1) rfl) ?_
  refine mx_bipush (pc := 826) (v := (32 : Int32)) (mx_dd dd_L_law_10 22 (826, .bipush 32, 2) rfl) (by decide) ?_
  refine mx_lshl (pc := 828) (mx_dd dd_L_law_10 23 (828, .lshl, 1) rfl) ?_
  refine mx_aload_n (pc := 829) 0 (mx_dd dd_L_law_10 24 (829, .aload_n 0, 1) rfl) rfl rfl ?_
  refine mx_iload (pc := 830) 4 (mx_dd dd_L_law_10 25 (830, .iload 4, 2) rfl) rfl ?_
  refine mx_iconst (pc := 832) (v := (2 : Int32)) (mx_dd dd_L_law_10 26 (832, .iconst 2, 1) rfl) (by decide) ?_
  refine mx_iadd (pc := 833) (mx_dd dd_L_law_10 27 (833, .iadd, 1) rfl) ?_
  obtain ⟨g2, P⟩ := P
  refine mx_xiald (pc := 834) g2 (mx_dd dd_L_law_10 28 (834, .iaload, 1) rfl) ?_
  refine mx_i2l (pc := 835) (mx_dd dd_L_law_10 29 (835, .i2l, 1) rfl) ?_
  refine mx_ldc2 (pc := 836) mx_cL_L_125 (mx_dd dd_L_law_10 30 (836, .ldc2_w 125, 3) rfl) ?_
  refine mx_land (pc := 839) (mx_dd dd_L_law_10 31 (839, .land, 1) rfl) ?_
  refine mx_lor (pc := 840) (mx_dd dd_L_law_10 32 (840, .lor, 1) rfl) ?_
  obtain ⟨g3, P⟩ := P
  obtain ⟨g4, P⟩ := P
  refine mx_cVI (pc := 841) (Y := mY_X11_fileNamed) (As := [.long _]) mx_ml_L_151 mx_y_X11_fileNamed rfl g4 (by decide) rfl (by decide) rfl (mx_dd dd_L_law_10 33 (841, .invokevirtual 151, 3) rfl) g3 (by decide) P (fun v1 h1 P => ?_)
  refine mx_aload_n (pc := 844) 2 (mx_dd dd_L_law_10 34 (844, .aload_n 2, 1) rfl) rfl rfl ?_
  refine mx_aload_n (pc := 845) 0 (mx_dd dd_L_law_10 35 (845, .aload_n 0, 1) rfl) rfl rfl ?_
  refine mx_iload (pc := 846) 4 (mx_dd dd_L_law_10 36 (846, .iload 4, 2) rfl) rfl ?_
  refine mx_iconst (pc := 848) (v := (1 : Int32)) (mx_dd dd_L_law_10 37 (848, .iconst 1, 1) rfl) (by decide) ?_
  refine mx_iadd (pc := 849) (mx_dd dd_L_law_10 38 (849, .iadd, 1) rfl) ?_
  obtain ⟨g5, P⟩ := P
  refine mx_xiald (pc := 850) g5 (mx_dd dd_L_law_10 39 (850, .iaload, 1) rfl) ?_
  refine mx_i2l (pc := 851) (mx_dd dd_L_law_11 0 (851, .i2l, 1) rfl) ?_
  refine mx_bipush (pc := 852) (v := (32 : Int32)) (mx_dd dd_L_law_11 1 (852, .bipush 32, 2) rfl) (by decide) ?_
  refine mx_lshl (pc := 854) (mx_dd dd_L_law_11 2 (854, .lshl, 1) rfl) ?_
  refine mx_aload_n (pc := 855) 0 (mx_dd dd_L_law_11 3 (855, .aload_n 0, 1) rfl) rfl rfl ?_
  refine mx_iload (pc := 856) 4 (mx_dd dd_L_law_11 4 (856, .iload 4, 2) rfl) rfl ?_
  refine mx_iconst (pc := 858) (v := (2 : Int32)) (mx_dd dd_L_law_11 5 (858, .iconst 2, 1) rfl) (by decide) ?_
  refine mx_iadd (pc := 859) (mx_dd dd_L_law_11 6 (859, .iadd, 1) rfl) ?_
  obtain ⟨g6, P⟩ := P
  refine mx_xiald (pc := 860) g6 (mx_dd dd_L_law_11 7 (860, .iaload, 1) rfl) ?_
  refine mx_i2l (pc := 861) (mx_dd dd_L_law_11 8 (861, .i2l, 1) rfl) ?_
  refine mx_ldc2 (pc := 862) mx_cL_L_125 (mx_dd dd_L_law_11 9 (862, .ldc2_w 125, 3) rfl) ?_
  refine mx_land (pc := 865) (mx_dd dd_L_law_11 10 (865, .land, 1) rfl) ?_
  refine mx_lor (pc := 866) (mx_dd dd_L_law_11 11 (866, .lor, 1) rfl) ?_
  obtain ⟨g7, P⟩ := P
  refine mx_cVI (pc := 867) (Y := mY_X12_fileNamed) (As := [.long _]) mx_ml_L_155 mx_y_X12_fileNamed rfl g7 (by decide) rfl (by simp [Value.category]) rfl (mx_dd dd_L_law_11 12 (867, .invokevirtual 155, 3) rfl) g3 (by decide) P (fun v2 h2 P => ?_)
  refine mx_icmp_eq (pc := 870) 1326 (mx_dd dd_L_law_11 13 (870, .if_icmp .eq 456, 3) rfl) rfl (fun c870 => ?_) (fun c870 => ?_)
  · have P := P.1 c870
    exact P
  · have P := P.2 c870
    refine mx_iconst (pc := 873) (v := (0 : Int32)) (mx_dd dd_L_law_11 14 (873, .iconst 0, 1) rfl) (by decide) ?_
    exact mx_ireturn (pc := 874) (mx_dd dd_L_law_11 15 (874, .ireturn, 1) rfl) rfl rfl P
theorem b_L_law_875 {d : Nat} {h : mxH} {Q : mxRes → mxH → Prop} (x1 : Nat) (x2 : Nat) (x3 : Nat) (x4 : Int32)
    (P : vp_in (x4 + (1 : Int32)) (hpZ h 0) ∧ 1 ≤ d ∧ mx_SM mY_L_lineCount (d - 1) [.ref x1, .int (hpI h 0 (x4 + (1 : Int32)).toNatClampNeg), .ref x3] h (mx_KI (fun v1 h1 => vp_in (x4 + (1 : Int32)) (hpZ h1 0) ∧ hpK h1 x2 = 12 ∧ mx_SM mY_X12_lineCount (d - 1) [.ref x2, .int (hpI h1 0 (x4 + (1 : Int32)).toNatClampNeg)] h1 (mx_KI (fun v2 h2 => hpK h2 x2 = 12 ∧ mx_SM mY_X12_thrown (d - 1) [.ref x2] h2 (mx_KI (fun v3 h3 => ((v3 = v1 → ((¬ v1 = 0 → mx_SX mY_L_law d 928 [(0, .ref 0), (1, .ref x1), (2, .ref x2), (3, .ref x3), (4, .int x4)] [] h3 Q) ∧ (v1 = 0 → hpK h3 x3 = 15 ∧ vp_in (0 : Int32) (hpZ h3 x3) ∧ (((lg_cmp (hpL h3 x3 (0 : Int32).toNatClampNeg) (v2.toInt64)) = 0 → mx_SX mY_L_law d 928 [(0, .ref 0), (1, .ref x1), (2, .ref x2), (3, .ref x3), (4, .int x4)] [] h3 Q) ∧ (¬ (lg_cmp (hpL h3 x3 (0 : Int32).toNatClampNeg) (v2.toInt64)) = 0 → Q (.inl (some (.int (0 : Int32)))) h3))))) ∧ (¬ v3 = v1 → Q (.inl (some (.int (0 : Int32)))) h3))) (mx_XX mY_L_law Q))) (mx_XX mY_L_law Q))) (fun _ _ => False))) : mx_SX mY_L_law d 875 [(0, .ref 0), (1, .ref x1), (2, .ref x2), (3, .ref x3), (4, .int x4)] [] h Q := by
  refine mx_aload_n (pc := 875) 1 (mx_dd dd_L_law_11 16 (875, .aload_n 1, 1) rfl) rfl rfl ?_
  refine mx_aload_n (pc := 876) 0 (mx_dd dd_L_law_11 17 (876, .aload_n 0, 1) rfl) rfl rfl ?_
  refine mx_iload (pc := 877) 4 (mx_dd dd_L_law_11 18 (877, .iload 4, 2) rfl) rfl ?_
  refine mx_iconst (pc := 879) (v := (1 : Int32)) (mx_dd dd_L_law_11 19 (879, .iconst 1, 1) rfl) (by decide) ?_
  refine mx_iadd (pc := 880) (mx_dd dd_L_law_11 20 (880, .iadd, 1) rfl) ?_
  obtain ⟨g1, P⟩ := P
  refine mx_xiald (pc := 881) g1 (mx_dd dd_L_law_11 21 (881, .iaload, 1) rfl) ?_
  refine mx_aload_n (pc := 882) 3 (mx_dd dd_L_law_11 22 (882, .aload_n 3, 1) rfl) rfl rfl ?_
  obtain ⟨g2, P⟩ := P
  refine mx_cSWI (pc := 883) (Y := mY_L_lineCount) (As := [.ref _, .int _, .ref _]) mx_ml_L_156 mx_y_L_lineCount (by decide) rfl (by decide) rfl (mx_dd dd_L_law_11 23 (883, .invokestatic 156, 3) rfl) g2 (by decide) P (fun v1 h1 P => ?_)
  refine mx_istore (pc := 886) (mx_dd dd_L_law_11 24 (886, .istore 5, 2) rfl) (by decide) (lv' := [(5, _), (0, _), (1, _), (2, _), (3, _), (4, _)]) rfl ?_
  refine mx_aload_n (pc := 888) 3 (mx_dd dd_L_law_11 25 (888, .aload_n 2, 1) rfl) rfl rfl ?_
  refine mx_aload_n (pc := 889) 1 (mx_dd dd_L_law_11 26 (889, .aload_n 0, 1) rfl) rfl rfl ?_
  refine mx_iload (pc := 890) 5 (mx_dd dd_L_law_11 27 (890, .iload 4, 2) rfl) rfl ?_
  refine mx_iconst (pc := 892) (v := (1 : Int32)) (mx_dd dd_L_law_11 28 (892, .iconst 1, 1) rfl) (by decide) ?_
  refine mx_iadd (pc := 893) (mx_dd dd_L_law_11 29 (893, .iadd, 1) rfl) ?_
  obtain ⟨g3, P⟩ := P
  refine mx_xiald (pc := 894) g3 (mx_dd dd_L_law_11 30 (894, .iaload, 1) rfl) ?_
  obtain ⟨g4, P⟩ := P
  refine mx_cVI (pc := 895) (Y := mY_X12_lineCount) (As := [.int _]) mx_ml_L_158 mx_y_X12_lineCount rfl g4 (by decide) rfl (by decide) rfl (mx_dd dd_L_law_11 31 (895, .invokevirtual 158, 3) rfl) g2 (by decide) P (fun v2 h2 P => ?_)
  refine mx_istore (pc := 898) (mx_dd dd_L_law_11 32 (898, .istore 6, 2) rfl) (by decide) (lv' := [(6, _), (5, _), (0, _), (1, _), (2, _), (3, _), (4, _)]) rfl ?_
  refine mx_aload_n (pc := 900) 4 (mx_dd dd_L_law_11 33 (900, .aload_n 2, 1) rfl) rfl rfl ?_
  obtain ⟨g5, P⟩ := P
  refine mx_cVI (pc := 901) (Y := mY_X12_thrown) (As := []) mx_ml_L_66 mx_y_X12_thrown rfl g5 (by decide) rfl (by decide) rfl (mx_dd dd_L_law_11 34 (901, .invokevirtual 66, 3) rfl) g2 (by decide) P (fun v3 h3 P => ?_)
  refine mx_iload (pc := 904) 1 (mx_dd dd_L_law_11 35 (904, .iload 5, 2) rfl) rfl ?_
  refine mx_icmp_eq (pc := 906) 911 (mx_dd dd_L_law_11 36 (906, .if_icmp .eq 5, 3) rfl) rfl (fun c906 => ?_) (fun c906 => ?_)
  · have P := P.1 c906
    refine mx_iload (pc := 911) 1 (mx_dd dd_L_law_11 39 (911, .iload 5, 2) rfl) rfl ?_
    refine mx_if_ne (pc := 913) 928 (mx_dd dd_L_law_12 0 (913, .ifCond .ne 15, 3) rfl) rfl (fun c913 => ?_) (fun c913 => ?_)
    · have P := P.1 c913
      refine mx_sel [2, 3, 4, 5, 6] rfl ?_
      exact P
    · have P := P.2 c913
      refine mx_aload_n (pc := 916) 5 (mx_dd dd_L_law_12 1 (916, .aload_n 3, 1) rfl) rfl rfl ?_
      refine mx_iconst (pc := 917) (v := (0 : Int32)) (mx_dd dd_L_law_12 2 (917, .iconst 0, 1) rfl) (by decide) ?_
      obtain ⟨g6, P⟩ := P
      obtain ⟨g7, P⟩ := P
      refine mx_lald (pc := 918) g6 g7 (mx_dd dd_L_law_12 3 (918, .laload, 1) rfl) ?_
      refine mx_iload (pc := 919) 0 (mx_dd dd_L_law_12 4 (919, .iload 6, 2) rfl) rfl ?_
      refine mx_i2l (pc := 921) (mx_dd dd_L_law_12 5 (921, .i2l, 1) rfl) ?_
      refine mx_lcmp (pc := 922) (mx_dd dd_L_law_12 6 (922, .lcmp, 1) rfl) ?_
      refine mx_if_eq (pc := 923) 928 (mx_dd dd_L_law_12 7 (923, .ifCond .eq 5, 3) rfl) rfl (fun c923 => ?_) (fun c923 => ?_)
      · have P := P.1 c923
        refine mx_sel [2, 3, 4, 5, 6] rfl ?_
        exact P
      · have P := P.2 c923
        refine mx_iconst (pc := 926) (v := (0 : Int32)) (mx_dd dd_L_law_12 8 (926, .iconst 0, 1) rfl) (by decide) ?_
        exact mx_ireturn (pc := 927) (mx_dd dd_L_law_12 9 (927, .ireturn, 1) rfl) rfl rfl P
  · have P := P.2 c906
    refine mx_iconst (pc := 909) (v := (0 : Int32)) (mx_dd dd_L_law_11 37 (909, .iconst 0, 1) rfl) (by decide) ?_
    exact mx_ireturn (pc := 910) (mx_dd dd_L_law_11 38 (910, .ireturn, 1) rfl) rfl rfl P
theorem b_L_law_928 {d : Nat} {h : mxH} {Q : mxRes → mxH → Prop} (x1 : Nat) (x2 : Nat) (x3 : Nat) (x4 : Int32)
    (P : mx_SX mY_L_law d 1326 [(0, .ref 0), (1, .ref x1), (2, .ref x2), (3, .ref x3), (4, .int x4)] [] h Q) : mx_SX mY_L_law d 928 [(0, .ref 0), (1, .ref x1), (2, .ref x2), (3, .ref x3), (4, .int x4)] [] h Q := by
  refine mx_goto (pc := 928) 1326 (mx_dd dd_L_law_12 10 (928, .goto 398, 3) rfl) rfl ?_
  exact P
theorem b_L_law_931 {d : Nat} {h : mxH} {Q : mxRes → mxH → Prop} (x1 : Nat) (x2 : Nat) (x3 : Nat) (x4 : Int32)
    (P : 1 ≤ d ∧ hpK h x1 = 11 ∧ mx_SM mY_X11_outputCount (d - 1) [.ref x1] h (mx_KI (fun v1 h1 => hpK h1 x2 = 12 ∧ mx_SM mY_X12_outputCount (d - 1) [.ref x2] h1 (mx_KI (fun v2 h2 => ((v1 = v2 → mx_SX mY_L_law d 1326 [(0, .ref 0), (1, .ref x1), (2, .ref x2), (3, .ref x3), (4, .int x4)] [] h2 Q) ∧ (¬ v1 = v2 → Q (.inl (some (.int (0 : Int32)))) h2))) (mx_XX mY_L_law Q))) (mx_XX mY_L_law Q))) : mx_SX mY_L_law d 931 [(0, .ref 0), (1, .ref x1), (2, .ref x2), (3, .ref x3), (4, .int x4)] [] h Q := by
  refine mx_aload_n (pc := 931) 1 (mx_dd dd_L_law_12 11 (931, .aload_n 1, 1) rfl) rfl rfl ?_
  obtain ⟨g1, P⟩ := P
  obtain ⟨g2, P⟩ := P
  refine mx_cVI (pc := 932) (Y := mY_X11_outputCount) (As := []) mx_ml_L_159 mx_y_X11_outputCount rfl g2 (by decide) rfl (by decide) rfl (mx_dd dd_L_law_12 12 (932, .invokevirtual 159, 3) rfl) g1 (by decide) P (fun v1 h1 P => ?_)
  refine mx_aload_n (pc := 935) 2 (mx_dd dd_L_law_12 13 (935, .aload_n 2, 1) rfl) rfl rfl ?_
  obtain ⟨g3, P⟩ := P
  refine mx_cVI (pc := 936) (Y := mY_X12_outputCount) (As := []) mx_ml_L_162 mx_y_X12_outputCount rfl g3 (by decide) rfl (by simp [Value.category]) rfl (mx_dd dd_L_law_12 14 (936, .invokevirtual 162, 3) rfl) g1 (by decide) P (fun v2 h2 P => ?_)
  refine mx_icmp_eq (pc := 939) 1326 (mx_dd dd_L_law_12 15 (939, .if_icmp .eq 387, 3) rfl) rfl (fun c939 => ?_) (fun c939 => ?_)
  · have P := P.1 c939
    exact P
  · have P := P.2 c939
    refine mx_iconst (pc := 942) (v := (0 : Int32)) (mx_dd dd_L_law_12 16 (942, .iconst 0, 1) rfl) (by decide) ?_
    exact mx_ireturn (pc := 943) (mx_dd dd_L_law_12 17 (943, .ireturn, 1) rfl) rfl rfl P
theorem b_L_law_944 {d : Nat} {h : mxH} {Q : mxRes → mxH → Prop} (x1 : Nat) (x2 : Nat) (x3 : Nat) (x4 : Int32)
    (P : 1 ≤ d ∧ hpK h x1 = 11 ∧ mx_SM mY_X11_inputCount (d - 1) [.ref x1] h (mx_KI (fun v1 h1 => hpK h1 x2 = 12 ∧ mx_SM mY_X12_inputCount (d - 1) [.ref x2] h1 (mx_KI (fun v2 h2 => ((v1 = v2 → mx_SX mY_L_law d 1326 [(0, .ref 0), (1, .ref x1), (2, .ref x2), (3, .ref x3), (4, .int x4)] [] h2 Q) ∧ (¬ v1 = v2 → Q (.inl (some (.int (0 : Int32)))) h2))) (mx_XX mY_L_law Q))) (mx_XX mY_L_law Q))) : mx_SX mY_L_law d 944 [(0, .ref 0), (1, .ref x1), (2, .ref x2), (3, .ref x3), (4, .int x4)] [] h Q := by
  refine mx_aload_n (pc := 944) 1 (mx_dd dd_L_law_12 18 (944, .aload_n 1, 1) rfl) rfl rfl ?_
  obtain ⟨g1, P⟩ := P
  obtain ⟨g2, P⟩ := P
  refine mx_cVI (pc := 945) (Y := mY_X11_inputCount) (As := []) mx_ml_L_163 mx_y_X11_inputCount rfl g2 (by decide) rfl (by decide) rfl (mx_dd dd_L_law_12 19 (945, .invokevirtual 163, 3) rfl) g1 (by decide) P (fun v1 h1 P => ?_)
  refine mx_aload_n (pc := 948) 2 (mx_dd dd_L_law_12 20 (948, .aload_n 2, 1) rfl) rfl rfl ?_
  obtain ⟨g3, P⟩ := P
  refine mx_cVI (pc := 949) (Y := mY_X12_inputCount) (As := []) mx_ml_L_166 mx_y_X12_inputCount rfl g3 (by decide) rfl (by simp [Value.category]) rfl (mx_dd dd_L_law_12 21 (949, .invokevirtual 166, 3) rfl) g1 (by decide) P (fun v2 h2 P => ?_)
  refine mx_icmp_eq (pc := 952) 1326 (mx_dd dd_L_law_12 22 (952, .if_icmp .eq 374, 3) rfl) rfl (fun c952 => ?_) (fun c952 => ?_)
  · have P := P.1 c952
    exact P
  · have P := P.2 c952
    refine mx_iconst (pc := 955) (v := (0 : Int32)) (mx_dd dd_L_law_12 23 (955, .iconst 0, 1) rfl) (by decide) ?_
    exact mx_ireturn (pc := 956) (mx_dd dd_L_law_12 24 (956, .ireturn, 1) rfl) rfl rfl P
theorem b_L_law_957 {d : Nat} {h : mxH} {Q : mxRes → mxH → Prop} (x1 : Nat) (x2 : Nat) (x3 : Nat) (x4 : Int32)
    (P : 1 ≤ d ∧ hpK h x1 = 11 ∧ mx_SM mY_X11_traceCount (d - 1) [.ref x1] h (mx_KI (fun v1 h1 => hpK h1 x2 = 12 ∧ mx_SM mY_X12_traceCount (d - 1) [.ref x2] h1 (mx_KI (fun v2 h2 => ((v1 = v2 → mx_SX mY_L_law d 1326 [(0, .ref 0), (1, .ref x1), (2, .ref x2), (3, .ref x3), (4, .int x4)] [] h2 Q) ∧ (¬ v1 = v2 → Q (.inl (some (.int (0 : Int32)))) h2))) (mx_XX mY_L_law Q))) (mx_XX mY_L_law Q))) : mx_SX mY_L_law d 957 [(0, .ref 0), (1, .ref x1), (2, .ref x2), (3, .ref x3), (4, .int x4)] [] h Q := by
  refine mx_aload_n (pc := 957) 1 (mx_dd dd_L_law_12 25 (957, .aload_n 1, 1) rfl) rfl rfl ?_
  obtain ⟨g1, P⟩ := P
  obtain ⟨g2, P⟩ := P
  refine mx_cVI (pc := 958) (Y := mY_X11_traceCount) (As := []) mx_ml_L_167 mx_y_X11_traceCount rfl g2 (by decide) rfl (by decide) rfl (mx_dd dd_L_law_12 26 (958, .invokevirtual 167, 3) rfl) g1 (by decide) P (fun v1 h1 P => ?_)
  refine mx_aload_n (pc := 961) 2 (mx_dd dd_L_law_12 27 (961, .aload_n 2, 1) rfl) rfl rfl ?_
  obtain ⟨g3, P⟩ := P
  refine mx_cVI (pc := 962) (Y := mY_X12_traceCount) (As := []) mx_ml_L_170 mx_y_X12_traceCount rfl g3 (by decide) rfl (by simp [Value.category]) rfl (mx_dd dd_L_law_12 28 (962, .invokevirtual 170, 3) rfl) g1 (by decide) P (fun v2 h2 P => ?_)
  refine mx_icmp_eq (pc := 965) 1326 (mx_dd dd_L_law_12 29 (965, .if_icmp .eq 361, 3) rfl) rfl (fun c965 => ?_) (fun c965 => ?_)
  · have P := P.1 c965
    exact P
  · have P := P.2 c965
    refine mx_iconst (pc := 968) (v := (0 : Int32)) (mx_dd dd_L_law_12 30 (968, .iconst 0, 1) rfl) (by decide) ?_
    exact mx_ireturn (pc := 969) (mx_dd dd_L_law_12 31 (969, .ireturn, 1) rfl) rfl rfl P
theorem b_L_law_970 {d : Nat} {h : mxH} {Q : mxRes → mxH → Prop} (x1 : Nat) (x2 : Nat) (x3 : Nat) (x4 : Int32)
    (P : vp_in (x4 + (1 : Int32)) (hpZ h 0) ∧ vp_in (x4 + (2 : Int32)) (hpZ h 0) ∧ 1 ≤ d ∧ mx_SM mY_L_traceField (d - 1) [.ref x1, .int (hpI h 0 (x4 + (1 : Int32)).toNatClampNeg), .int (hpI h 0 (x4 + (2 : Int32)).toNatClampNeg), .ref x3] h (mx_KI (fun v1 h1 => vp_in (x4 + (1 : Int32)) (hpZ h1 0) ∧ vp_in (x4 + (2 : Int32)) (hpZ h1 0) ∧ hpK h1 x2 = 12 ∧ mx_SM mY_X12_traceField (d - 1) [.ref x2, .int (hpI h1 0 (x4 + (1 : Int32)).toNatClampNeg), .int (hpI h1 0 (x4 + (2 : Int32)).toNatClampNeg)] h1 (mx_KI (fun v2 h2 => hpK h2 x2 = 12 ∧ mx_SM mY_X12_thrown (d - 1) [.ref x2] h2 (mx_KI (fun v3 h3 => ((v3 = v1 → ((¬ v1 = 0 → mx_SX mY_L_law d 1035 [(0, .ref 0), (1, .ref x1), (2, .ref x2), (3, .ref x3), (4, .int x4)] [] h3 Q) ∧ (v1 = 0 → hpK h3 x3 = 15 ∧ vp_in (0 : Int32) (hpZ h3 x3) ∧ (((lg_cmp (hpL h3 x3 (0 : Int32).toNatClampNeg) (v2.toInt64)) = 0 → mx_SX mY_L_law d 1035 [(0, .ref 0), (1, .ref x1), (2, .ref x2), (3, .ref x3), (4, .int x4)] [] h3 Q) ∧ (¬ (lg_cmp (hpL h3 x3 (0 : Int32).toNatClampNeg) (v2.toInt64)) = 0 → Q (.inl (some (.int (0 : Int32)))) h3))))) ∧ (¬ v3 = v1 → Q (.inl (some (.int (0 : Int32)))) h3))) (mx_XX mY_L_law Q))) (mx_XX mY_L_law Q))) (fun _ _ => False))) : mx_SX mY_L_law d 970 [(0, .ref 0), (1, .ref x1), (2, .ref x2), (3, .ref x3), (4, .int x4)] [] h Q := by
  refine mx_aload_n (pc := 970) 1 (mx_dd dd_L_law_12 32 (970, .aload_n 1, 1) rfl) rfl rfl ?_
  refine mx_aload_n (pc := 971) 0 (mx_dd dd_L_law_12 33 (971, .aload_n 0, 1) rfl) rfl rfl ?_
  refine mx_iload (pc := 972) 4 (mx_dd dd_L_law_12 34 (972, .iload 4, 2) rfl) rfl ?_
  refine mx_iconst (pc := 974) (v := (1 : Int32)) (mx_dd dd_L_law_12 35 (974, .iconst 1, 1) rfl) (by decide) ?_
  refine mx_iadd (pc := 975) (mx_dd dd_L_law_12 36 (975, .iadd, 1) rfl) ?_
  obtain ⟨g1, P⟩ := P
  refine mx_xiald (pc := 976) g1 (mx_dd dd_L_law_12 37 (976, .iaload, 1) rfl) ?_
  refine mx_aload_n (pc := 977) 0 (mx_dd dd_L_law_12 38 (977, .aload_n 0, 1) rfl) rfl rfl ?_
  refine mx_iload (pc := 978) 4 (mx_dd dd_L_law_12 39 (978, .iload 4, 2) rfl) rfl ?_
  refine mx_iconst (pc := 980) (v := (2 : Int32)) (mx_dd dd_L_law_13 0 (980, .iconst 2, 1) rfl) (by decide) ?_
  refine mx_iadd (pc := 981) (mx_dd dd_L_law_13 1 (981, .iadd, 1) rfl) ?_
  obtain ⟨g2, P⟩ := P
  refine mx_xiald (pc := 982) g2 (mx_dd dd_L_law_13 2 (982, .iaload, 1) rfl) ?_
  refine mx_aload_n (pc := 983) 3 (mx_dd dd_L_law_13 3 (983, .aload_n 3, 1) rfl) rfl rfl ?_
  obtain ⟨g3, P⟩ := P
  refine mx_cSWI (pc := 984) (Y := mY_L_traceField) (As := [.ref _, .int _, .int _, .ref _]) mx_ml_L_171 mx_y_L_traceField (by decide) rfl (by decide) rfl (mx_dd dd_L_law_13 4 (984, .invokestatic 171, 3) rfl) g3 (by decide) P (fun v1 h1 P => ?_)
  refine mx_istore (pc := 987) (mx_dd dd_L_law_13 5 (987, .istore 5, 2) rfl) (by decide) (lv' := [(5, _), (0, _), (1, _), (2, _), (3, _), (4, _)]) rfl ?_
  refine mx_aload_n (pc := 989) 3 (mx_dd dd_L_law_13 6 (989, .aload_n 2, 1) rfl) rfl rfl ?_
  refine mx_aload_n (pc := 990) 1 (mx_dd dd_L_law_13 7 (990, .aload_n 0, 1) rfl) rfl rfl ?_
  refine mx_iload (pc := 991) 5 (mx_dd dd_L_law_13 8 (991, .iload 4, 2) rfl) rfl ?_
  refine mx_iconst (pc := 993) (v := (1 : Int32)) (mx_dd dd_L_law_13 9 (993, .iconst 1, 1) rfl) (by decide) ?_
  refine mx_iadd (pc := 994) (mx_dd dd_L_law_13 10 (994, .iadd, 1) rfl) ?_
  obtain ⟨g4, P⟩ := P
  refine mx_xiald (pc := 995) g4 (mx_dd dd_L_law_13 11 (995, .iaload, 1) rfl) ?_
  refine mx_aload_n (pc := 996) 1 (mx_dd dd_L_law_13 12 (996, .aload_n 0, 1) rfl) rfl rfl ?_
  refine mx_iload (pc := 997) 5 (mx_dd dd_L_law_13 13 (997, .iload 4, 2) rfl) rfl ?_
  refine mx_iconst (pc := 999) (v := (2 : Int32)) (mx_dd dd_L_law_13 14 (999, .iconst 2, 1) rfl) (by decide) ?_
  refine mx_iadd (pc := 1000) (mx_dd dd_L_law_13 15 (1000, .iadd, 1) rfl) ?_
  obtain ⟨g5, P⟩ := P
  refine mx_xiald (pc := 1001) g5 (mx_dd dd_L_law_13 16 (1001, .iaload, 1) rfl) ?_
  obtain ⟨g6, P⟩ := P
  refine mx_cVI (pc := 1002) (Y := mY_X12_traceField) (As := [.int _, .int _]) mx_ml_L_174 mx_y_X12_traceField rfl g6 (by decide) rfl (by decide) rfl (mx_dd dd_L_law_13 17 (1002, .invokevirtual 174, 3) rfl) g3 (by decide) P (fun v2 h2 P => ?_)
  refine mx_istore (pc := 1005) (mx_dd dd_L_law_13 18 (1005, .istore 6, 2) rfl) (by decide) (lv' := [(6, _), (5, _), (0, _), (1, _), (2, _), (3, _), (4, _)]) rfl ?_
  refine mx_aload_n (pc := 1007) 4 (mx_dd dd_L_law_13 19 (1007, .aload_n 2, 1) rfl) rfl rfl ?_
  obtain ⟨g7, P⟩ := P
  refine mx_cVI (pc := 1008) (Y := mY_X12_thrown) (As := []) mx_ml_L_66 mx_y_X12_thrown rfl g7 (by decide) rfl (by decide) rfl (mx_dd dd_L_law_13 20 (1008, .invokevirtual 66, 3) rfl) g3 (by decide) P (fun v3 h3 P => ?_)
  refine mx_iload (pc := 1011) 1 (mx_dd dd_L_law_13 21 (1011, .iload 5, 2) rfl) rfl ?_
  refine mx_icmp_eq (pc := 1013) 1018 (mx_dd dd_L_law_13 22 (1013, .if_icmp .eq 5, 3) rfl) rfl (fun c1013 => ?_) (fun c1013 => ?_)
  · have P := P.1 c1013
    refine mx_iload (pc := 1018) 1 (mx_dd dd_L_law_13 25 (1018, .iload 5, 2) rfl) rfl ?_
    refine mx_if_ne (pc := 1020) 1035 (mx_dd dd_L_law_13 26 (1020, .ifCond .ne 15, 3) rfl) rfl (fun c1020 => ?_) (fun c1020 => ?_)
    · have P := P.1 c1020
      refine mx_sel [2, 3, 4, 5, 6] rfl ?_
      exact P
    · have P := P.2 c1020
      refine mx_aload_n (pc := 1023) 5 (mx_dd dd_L_law_13 27 (1023, .aload_n 3, 1) rfl) rfl rfl ?_
      refine mx_iconst (pc := 1024) (v := (0 : Int32)) (mx_dd dd_L_law_13 28 (1024, .iconst 0, 1) rfl) (by decide) ?_
      obtain ⟨g8, P⟩ := P
      obtain ⟨g9, P⟩ := P
      refine mx_lald (pc := 1025) g8 g9 (mx_dd dd_L_law_13 29 (1025, .laload, 1) rfl) ?_
      refine mx_iload (pc := 1026) 0 (mx_dd dd_L_law_13 30 (1026, .iload 6, 2) rfl) rfl ?_
      refine mx_i2l (pc := 1028) (mx_dd dd_L_law_13 31 (1028, .i2l, 1) rfl) ?_
      refine mx_lcmp (pc := 1029) (mx_dd dd_L_law_13 32 (1029, .lcmp, 1) rfl) ?_
      refine mx_if_eq (pc := 1030) 1035 (mx_dd dd_L_law_13 33 (1030, .ifCond .eq 5, 3) rfl) rfl (fun c1030 => ?_) (fun c1030 => ?_)
      · have P := P.1 c1030
        refine mx_sel [2, 3, 4, 5, 6] rfl ?_
        exact P
      · have P := P.2 c1030
        refine mx_iconst (pc := 1033) (v := (0 : Int32)) (mx_dd dd_L_law_13 34 (1033, .iconst 0, 1) rfl) (by decide) ?_
        exact mx_ireturn (pc := 1034) (mx_dd dd_L_law_13 35 (1034, .ireturn, 1) rfl) rfl rfl P
  · have P := P.2 c1013
    refine mx_iconst (pc := 1016) (v := (0 : Int32)) (mx_dd dd_L_law_13 23 (1016, .iconst 0, 1) rfl) (by decide) ?_
    exact mx_ireturn (pc := 1017) (mx_dd dd_L_law_13 24 (1017, .ireturn, 1) rfl) rfl rfl P
theorem b_L_law_1035 {d : Nat} {h : mxH} {Q : mxRes → mxH → Prop} (x1 : Nat) (x2 : Nat) (x3 : Nat) (x4 : Int32)
    (P : mx_SX mY_L_law d 1326 [(0, .ref 0), (1, .ref x1), (2, .ref x2), (3, .ref x3), (4, .int x4)] [] h Q) : mx_SX mY_L_law d 1035 [(0, .ref 0), (1, .ref x1), (2, .ref x2), (3, .ref x3), (4, .int x4)] [] h Q := by
  refine mx_goto (pc := 1035) 1326 (mx_dd dd_L_law_13 36 (1035, .goto 291, 3) rfl) rfl ?_
  exact P
theorem b_L_law_1038 {d : Nat} {h : mxH} {Q : mxRes → mxH → Prop} (x1 : Nat) (x2 : Nat) (x3 : Nat) (x4 : Int32)
    (P : 1 ≤ d ∧ hpK h x1 = 11 ∧ mx_SM mY_X11_failures (d - 1) [.ref x1] h (mx_KI (fun v1 h1 => hpK h1 x2 = 12 ∧ mx_SM mY_X12_failures (d - 1) [.ref x2] h1 (mx_KI (fun v2 h2 => ((v1 = v2 → mx_SX mY_L_law d 1326 [(0, .ref 0), (1, .ref x1), (2, .ref x2), (3, .ref x3), (4, .int x4)] [] h2 Q) ∧ (¬ v1 = v2 → Q (.inl (some (.int (0 : Int32)))) h2))) (mx_XX mY_L_law Q))) (mx_XX mY_L_law Q))) : mx_SX mY_L_law d 1038 [(0, .ref 0), (1, .ref x1), (2, .ref x2), (3, .ref x3), (4, .int x4)] [] h Q := by
  refine mx_aload_n (pc := 1038) 1 (mx_dd dd_L_law_13 37 (1038, .aload_n 1, 1) rfl) rfl rfl ?_
  obtain ⟨g1, P⟩ := P
  obtain ⟨g2, P⟩ := P
  refine mx_cVI (pc := 1039) (Y := mY_X11_failures) (As := []) mx_ml_L_175 mx_y_X11_failures rfl g2 (by decide) rfl (by decide) rfl (mx_dd dd_L_law_13 38 (1039, .invokevirtual 175, 3) rfl) g1 (by decide) P (fun v1 h1 P => ?_)
  refine mx_aload_n (pc := 1042) 2 (mx_dd dd_L_law_13 39 (1042, .aload_n 2, 1) rfl) rfl rfl ?_
  obtain ⟨g3, P⟩ := P
  refine mx_cVI (pc := 1043) (Y := mY_X12_failures) (As := []) mx_ml_L_178 mx_y_X12_failures rfl g3 (by decide) rfl (by simp [Value.category]) rfl (mx_dd dd_L_law_14 0 (1043, .invokevirtual 178, 3) rfl) g1 (by decide) P (fun v2 h2 P => ?_)
  refine mx_icmp_eq (pc := 1046) 1326 (mx_dd dd_L_law_14 1 (1046, .if_icmp .eq 280, 3) rfl) rfl (fun c1046 => ?_) (fun c1046 => ?_)
  · have P := P.1 c1046
    exact P
  · have P := P.2 c1046
    refine mx_iconst (pc := 1049) (v := (0 : Int32)) (mx_dd dd_L_law_14 2 (1049, .iconst 0, 1) rfl) (by decide) ?_
    exact mx_ireturn (pc := 1050) (mx_dd dd_L_law_14 3 (1050, .ireturn, 1) rfl) rfl rfl P
theorem b_L_law_1051 {d : Nat} {h : mxH} {Q : mxRes → mxH → Prop} (x1 : Nat) (x2 : Nat) (x3 : Nat) (x4 : Int32)
    (P : vp_in (x4 + (1 : Int32)) (hpZ h 0) ∧ vp_in (x4 + (2 : Int32)) (hpZ h 0) ∧ 1 ≤ d ∧ mx_SM mY_L_formatLine (d - 1) [.ref x1, .int (hpI h 0 (x4 + (1 : Int32)).toNatClampNeg), .int (hpI h 0 (x4 + (2 : Int32)).toNatClampNeg), .ref x3] h (mx_KI (fun v1 h1 => vp_in (x4 + (1 : Int32)) (hpZ h1 0) ∧ vp_in (x4 + (2 : Int32)) (hpZ h1 0) ∧ hpK h1 x2 = 12 ∧ mx_SM mY_X12_formatLine (d - 1) [.ref x2, .int (hpI h1 0 (x4 + (1 : Int32)).toNatClampNeg), .int (hpI h1 0 (x4 + (2 : Int32)).toNatClampNeg)] h1 (mx_KI (fun v2 h2 => hpK h2 x2 = 12 ∧ mx_SM mY_X12_thrown (d - 1) [.ref x2] h2 (mx_KI (fun v3 h3 => ((v3 = v1 → ((¬ v1 = 0 → mx_SX mY_L_law d 1116 [(0, .ref 0), (1, .ref x1), (2, .ref x2), (3, .ref x3), (4, .int x4)] [] h3 Q) ∧ (v1 = 0 → hpK h3 x3 = 15 ∧ vp_in (0 : Int32) (hpZ h3 x3) ∧ (((lg_cmp (hpL h3 x3 (0 : Int32).toNatClampNeg) (v2.toInt64)) = 0 → mx_SX mY_L_law d 1116 [(0, .ref 0), (1, .ref x1), (2, .ref x2), (3, .ref x3), (4, .int x4)] [] h3 Q) ∧ (¬ (lg_cmp (hpL h3 x3 (0 : Int32).toNatClampNeg) (v2.toInt64)) = 0 → Q (.inl (some (.int (0 : Int32)))) h3))))) ∧ (¬ v3 = v1 → Q (.inl (some (.int (0 : Int32)))) h3))) (mx_XX mY_L_law Q))) (mx_XX mY_L_law Q))) (fun _ _ => False))) : mx_SX mY_L_law d 1051 [(0, .ref 0), (1, .ref x1), (2, .ref x2), (3, .ref x3), (4, .int x4)] [] h Q := by
  refine mx_aload_n (pc := 1051) 1 (mx_dd dd_L_law_14 4 (1051, .aload_n 1, 1) rfl) rfl rfl ?_
  refine mx_aload_n (pc := 1052) 0 (mx_dd dd_L_law_14 5 (1052, .aload_n 0, 1) rfl) rfl rfl ?_
  refine mx_iload (pc := 1053) 4 (mx_dd dd_L_law_14 6 (1053, .iload 4, 2) rfl) rfl ?_
  refine mx_iconst (pc := 1055) (v := (1 : Int32)) (mx_dd dd_L_law_14 7 (1055, .iconst 1, 1) rfl) (by decide) ?_
  refine mx_iadd (pc := 1056) (mx_dd dd_L_law_14 8 (1056, .iadd, 1) rfl) ?_
  obtain ⟨g1, P⟩ := P
  refine mx_xiald (pc := 1057) g1 (mx_dd dd_L_law_14 9 (1057, .iaload, 1) rfl) ?_
  refine mx_aload_n (pc := 1058) 0 (mx_dd dd_L_law_14 10 (1058, .aload_n 0, 1) rfl) rfl rfl ?_
  refine mx_iload (pc := 1059) 4 (mx_dd dd_L_law_14 11 (1059, .iload 4, 2) rfl) rfl ?_
  refine mx_iconst (pc := 1061) (v := (2 : Int32)) (mx_dd dd_L_law_14 12 (1061, .iconst 2, 1) rfl) (by decide) ?_
  refine mx_iadd (pc := 1062) (mx_dd dd_L_law_14 13 (1062, .iadd, 1) rfl) ?_
  obtain ⟨g2, P⟩ := P
  refine mx_xiald (pc := 1063) g2 (mx_dd dd_L_law_14 14 (1063, .iaload, 1) rfl) ?_
  refine mx_aload_n (pc := 1064) 3 (mx_dd dd_L_law_14 15 (1064, .aload_n 3, 1) rfl) rfl rfl ?_
  obtain ⟨g3, P⟩ := P
  refine mx_cSWI (pc := 1065) (Y := mY_L_formatLine) (As := [.ref _, .int _, .int _, .ref _]) mx_ml_L_179 mx_y_L_formatLine (by decide) rfl (by decide) rfl (mx_dd dd_L_law_14 16 (1065, .invokestatic 179, 3) rfl) g3 (by decide) P (fun v1 h1 P => ?_)
  refine mx_istore (pc := 1068) (mx_dd dd_L_law_14 17 (1068, .istore 5, 2) rfl) (by decide) (lv' := [(5, _), (0, _), (1, _), (2, _), (3, _), (4, _)]) rfl ?_
  refine mx_aload_n (pc := 1070) 3 (mx_dd dd_L_law_14 18 (1070, .aload_n 2, 1) rfl) rfl rfl ?_
  refine mx_aload_n (pc := 1071) 1 (mx_dd dd_L_law_14 19 (1071, .aload_n 0, 1) rfl) rfl rfl ?_
  refine mx_iload (pc := 1072) 5 (mx_dd dd_L_law_14 20 (1072, .iload 4, 2) rfl) rfl ?_
  refine mx_iconst (pc := 1074) (v := (1 : Int32)) (mx_dd dd_L_law_14 21 (1074, .iconst 1, 1) rfl) (by decide) ?_
  refine mx_iadd (pc := 1075) (mx_dd dd_L_law_14 22 (1075, .iadd, 1) rfl) ?_
  obtain ⟨g4, P⟩ := P
  refine mx_xiald (pc := 1076) g4 (mx_dd dd_L_law_14 23 (1076, .iaload, 1) rfl) ?_
  refine mx_aload_n (pc := 1077) 1 (mx_dd dd_L_law_14 24 (1077, .aload_n 0, 1) rfl) rfl rfl ?_
  refine mx_iload (pc := 1078) 5 (mx_dd dd_L_law_14 25 (1078, .iload 4, 2) rfl) rfl ?_
  refine mx_iconst (pc := 1080) (v := (2 : Int32)) (mx_dd dd_L_law_14 26 (1080, .iconst 2, 1) rfl) (by decide) ?_
  refine mx_iadd (pc := 1081) (mx_dd dd_L_law_14 27 (1081, .iadd, 1) rfl) ?_
  obtain ⟨g5, P⟩ := P
  refine mx_xiald (pc := 1082) g5 (mx_dd dd_L_law_14 28 (1082, .iaload, 1) rfl) ?_
  obtain ⟨g6, P⟩ := P
  refine mx_cVI (pc := 1083) (Y := mY_X12_formatLine) (As := [.int _, .int _]) mx_ml_L_181 mx_y_X12_formatLine rfl g6 (by decide) rfl (by decide) rfl (mx_dd dd_L_law_14 29 (1083, .invokevirtual 181, 3) rfl) g3 (by decide) P (fun v2 h2 P => ?_)
  refine mx_istore (pc := 1086) (mx_dd dd_L_law_14 30 (1086, .istore 6, 2) rfl) (by decide) (lv' := [(6, _), (5, _), (0, _), (1, _), (2, _), (3, _), (4, _)]) rfl ?_
  refine mx_aload_n (pc := 1088) 4 (mx_dd dd_L_law_14 31 (1088, .aload_n 2, 1) rfl) rfl rfl ?_
  obtain ⟨g7, P⟩ := P
  refine mx_cVI (pc := 1089) (Y := mY_X12_thrown) (As := []) mx_ml_L_66 mx_y_X12_thrown rfl g7 (by decide) rfl (by decide) rfl (mx_dd dd_L_law_14 32 (1089, .invokevirtual 66, 3) rfl) g3 (by decide) P (fun v3 h3 P => ?_)
  refine mx_iload (pc := 1092) 1 (mx_dd dd_L_law_14 33 (1092, .iload 5, 2) rfl) rfl ?_
  refine mx_icmp_eq (pc := 1094) 1099 (mx_dd dd_L_law_14 34 (1094, .if_icmp .eq 5, 3) rfl) rfl (fun c1094 => ?_) (fun c1094 => ?_)
  · have P := P.1 c1094
    refine mx_iload (pc := 1099) 1 (mx_dd dd_L_law_14 37 (1099, .iload 5, 2) rfl) rfl ?_
    refine mx_if_ne (pc := 1101) 1116 (mx_dd dd_L_law_14 38 (1101, .ifCond .ne 15, 3) rfl) rfl (fun c1101 => ?_) (fun c1101 => ?_)
    · have P := P.1 c1101
      refine mx_sel [2, 3, 4, 5, 6] rfl ?_
      exact P
    · have P := P.2 c1101
      refine mx_aload_n (pc := 1104) 5 (mx_dd dd_L_law_14 39 (1104, .aload_n 3, 1) rfl) rfl rfl ?_
      refine mx_iconst (pc := 1105) (v := (0 : Int32)) (mx_dd dd_L_law_15 0 (1105, .iconst 0, 1) rfl) (by decide) ?_
      obtain ⟨g8, P⟩ := P
      obtain ⟨g9, P⟩ := P
      refine mx_lald (pc := 1106) g8 g9 (mx_dd dd_L_law_15 1 (1106, .laload, 1) rfl) ?_
      refine mx_iload (pc := 1107) 0 (mx_dd dd_L_law_15 2 (1107, .iload 6, 2) rfl) rfl ?_
      refine mx_i2l (pc := 1109) (mx_dd dd_L_law_15 3 (1109, .i2l, 1) rfl) ?_
      refine mx_lcmp (pc := 1110) (mx_dd dd_L_law_15 4 (1110, .lcmp, 1) rfl) ?_
      refine mx_if_eq (pc := 1111) 1116 (mx_dd dd_L_law_15 5 (1111, .ifCond .eq 5, 3) rfl) rfl (fun c1111 => ?_) (fun c1111 => ?_)
      · have P := P.1 c1111
        refine mx_sel [2, 3, 4, 5, 6] rfl ?_
        exact P
      · have P := P.2 c1111
        refine mx_iconst (pc := 1114) (v := (0 : Int32)) (mx_dd dd_L_law_15 6 (1114, .iconst 0, 1) rfl) (by decide) ?_
        exact mx_ireturn (pc := 1115) (mx_dd dd_L_law_15 7 (1115, .ireturn, 1) rfl) rfl rfl P
  · have P := P.2 c1094
    refine mx_iconst (pc := 1097) (v := (0 : Int32)) (mx_dd dd_L_law_14 35 (1097, .iconst 0, 1) rfl) (by decide) ?_
    exact mx_ireturn (pc := 1098) (mx_dd dd_L_law_14 36 (1098, .ireturn, 1) rfl) rfl rfl P
theorem b_L_law_1116 {d : Nat} {h : mxH} {Q : mxRes → mxH → Prop} (x1 : Nat) (x2 : Nat) (x3 : Nat) (x4 : Int32)
    (P : mx_SX mY_L_law d 1326 [(0, .ref 0), (1, .ref x1), (2, .ref x2), (3, .ref x3), (4, .int x4)] [] h Q) : mx_SX mY_L_law d 1116 [(0, .ref 0), (1, .ref x1), (2, .ref x2), (3, .ref x3), (4, .int x4)] [] h Q := by
  refine mx_goto (pc := 1116) 1326 (mx_dd dd_L_law_15 8 (1116, .goto 210, 3) rfl) rfl ?_
  exact P
theorem b_L_law_1119 {d : Nat} {h : mxH} {Q : mxRes → mxH → Prop} (x1 : Nat) (x2 : Nat) (x3 : Nat) (x4 : Int32)
    (P : vp_in (x4 + (1 : Int32)) (hpZ h 0) ∧ 1 ≤ d ∧ mx_SM mY_L_formatOutput (d - 1) [.ref x1, .int (hpI h 0 (x4 + (1 : Int32)).toNatClampNeg), .ref x3] h (mx_KI (fun v1 h1 => vp_in (x4 + (1 : Int32)) (hpZ h1 0) ∧ hpK h1 x2 = 12 ∧ mx_SM mY_X12_formatOutput (d - 1) [.ref x2, .int (hpI h1 0 (x4 + (1 : Int32)).toNatClampNeg)] h1 (mx_KI (fun v2 h2 => hpK h2 x2 = 12 ∧ mx_SM mY_X12_thrown (d - 1) [.ref x2] h2 (mx_KI (fun v3 h3 => ((v3 = v1 → ((¬ v1 = 0 → mx_SX mY_L_law d 1172 [(0, .ref 0), (1, .ref x1), (2, .ref x2), (3, .ref x3), (4, .int x4)] [] h3 Q) ∧ (v1 = 0 → hpK h3 x3 = 15 ∧ vp_in (0 : Int32) (hpZ h3 x3) ∧ (((lg_cmp (hpL h3 x3 (0 : Int32).toNatClampNeg) (v2.toInt64)) = 0 → mx_SX mY_L_law d 1172 [(0, .ref 0), (1, .ref x1), (2, .ref x2), (3, .ref x3), (4, .int x4)] [] h3 Q) ∧ (¬ (lg_cmp (hpL h3 x3 (0 : Int32).toNatClampNeg) (v2.toInt64)) = 0 → Q (.inl (some (.int (0 : Int32)))) h3))))) ∧ (¬ v3 = v1 → Q (.inl (some (.int (0 : Int32)))) h3))) (mx_XX mY_L_law Q))) (mx_XX mY_L_law Q))) (fun _ _ => False))) : mx_SX mY_L_law d 1119 [(0, .ref 0), (1, .ref x1), (2, .ref x2), (3, .ref x3), (4, .int x4)] [] h Q := by
  refine mx_aload_n (pc := 1119) 1 (mx_dd dd_L_law_15 9 (1119, .aload_n 1, 1) rfl) rfl rfl ?_
  refine mx_aload_n (pc := 1120) 0 (mx_dd dd_L_law_15 10 (1120, .aload_n 0, 1) rfl) rfl rfl ?_
  refine mx_iload (pc := 1121) 4 (mx_dd dd_L_law_15 11 (1121, .iload 4, 2) rfl) rfl ?_
  refine mx_iconst (pc := 1123) (v := (1 : Int32)) (mx_dd dd_L_law_15 12 (1123, .iconst 1, 1) rfl) (by decide) ?_
  refine mx_iadd (pc := 1124) (mx_dd dd_L_law_15 13 (1124, .iadd, 1) rfl) ?_
  obtain ⟨g1, P⟩ := P
  refine mx_xiald (pc := 1125) g1 (mx_dd dd_L_law_15 14 (1125, .iaload, 1) rfl) ?_
  refine mx_aload_n (pc := 1126) 3 (mx_dd dd_L_law_15 15 (1126, .aload_n 3, 1) rfl) rfl rfl ?_
  obtain ⟨g2, P⟩ := P
  refine mx_cSWI (pc := 1127) (Y := mY_L_formatOutput) (As := [.ref _, .int _, .ref _]) mx_ml_L_182 mx_y_L_formatOutput (by decide) rfl (by decide) rfl (mx_dd dd_L_law_15 16 (1127, .invokestatic 182, 3) rfl) g2 (by decide) P (fun v1 h1 P => ?_)
  refine mx_istore (pc := 1130) (mx_dd dd_L_law_15 17 (1130, .istore 5, 2) rfl) (by decide) (lv' := [(5, _), (0, _), (1, _), (2, _), (3, _), (4, _)]) rfl ?_
  refine mx_aload_n (pc := 1132) 3 (mx_dd dd_L_law_15 18 (1132, .aload_n 2, 1) rfl) rfl rfl ?_
  refine mx_aload_n (pc := 1133) 1 (mx_dd dd_L_law_15 19 (1133, .aload_n 0, 1) rfl) rfl rfl ?_
  refine mx_iload (pc := 1134) 5 (mx_dd dd_L_law_15 20 (1134, .iload 4, 2) rfl) rfl ?_
  refine mx_iconst (pc := 1136) (v := (1 : Int32)) (mx_dd dd_L_law_15 21 (1136, .iconst 1, 1) rfl) (by decide) ?_
  refine mx_iadd (pc := 1137) (mx_dd dd_L_law_15 22 (1137, .iadd, 1) rfl) ?_
  obtain ⟨g3, P⟩ := P
  refine mx_xiald (pc := 1138) g3 (mx_dd dd_L_law_15 23 (1138, .iaload, 1) rfl) ?_
  obtain ⟨g4, P⟩ := P
  refine mx_cVI (pc := 1139) (Y := mY_X12_formatOutput) (As := [.int _]) mx_ml_L_184 mx_y_X12_formatOutput rfl g4 (by decide) rfl (by decide) rfl (mx_dd dd_L_law_15 24 (1139, .invokevirtual 184, 3) rfl) g2 (by decide) P (fun v2 h2 P => ?_)
  refine mx_istore (pc := 1142) (mx_dd dd_L_law_15 25 (1142, .istore 6, 2) rfl) (by decide) (lv' := [(6, _), (5, _), (0, _), (1, _), (2, _), (3, _), (4, _)]) rfl ?_
  refine mx_aload_n (pc := 1144) 4 (mx_dd dd_L_law_15 26 (1144, .aload_n 2, 1) rfl) rfl rfl ?_
  obtain ⟨g5, P⟩ := P
  refine mx_cVI (pc := 1145) (Y := mY_X12_thrown) (As := []) mx_ml_L_66 mx_y_X12_thrown rfl g5 (by decide) rfl (by decide) rfl (mx_dd dd_L_law_15 27 (1145, .invokevirtual 66, 3) rfl) g2 (by decide) P (fun v3 h3 P => ?_)
  refine mx_iload (pc := 1148) 1 (mx_dd dd_L_law_15 28 (1148, .iload 5, 2) rfl) rfl ?_
  refine mx_icmp_eq (pc := 1150) 1155 (mx_dd dd_L_law_15 29 (1150, .if_icmp .eq 5, 3) rfl) rfl (fun c1150 => ?_) (fun c1150 => ?_)
  · have P := P.1 c1150
    refine mx_iload (pc := 1155) 1 (mx_dd dd_L_law_15 32 (1155, .iload 5, 2) rfl) rfl ?_
    refine mx_if_ne (pc := 1157) 1172 (mx_dd dd_L_law_15 33 (1157, .ifCond .ne 15, 3) rfl) rfl (fun c1157 => ?_) (fun c1157 => ?_)
    · have P := P.1 c1157
      refine mx_sel [2, 3, 4, 5, 6] rfl ?_
      exact P
    · have P := P.2 c1157
      refine mx_aload_n (pc := 1160) 5 (mx_dd dd_L_law_15 34 (1160, .aload_n 3, 1) rfl) rfl rfl ?_
      refine mx_iconst (pc := 1161) (v := (0 : Int32)) (mx_dd dd_L_law_15 35 (1161, .iconst 0, 1) rfl) (by decide) ?_
      obtain ⟨g6, P⟩ := P
      obtain ⟨g7, P⟩ := P
      refine mx_lald (pc := 1162) g6 g7 (mx_dd dd_L_law_15 36 (1162, .laload, 1) rfl) ?_
      refine mx_iload (pc := 1163) 0 (mx_dd dd_L_law_15 37 (1163, .iload 6, 2) rfl) rfl ?_
      refine mx_i2l (pc := 1165) (mx_dd dd_L_law_15 38 (1165, .i2l, 1) rfl) ?_
      refine mx_lcmp (pc := 1166) (mx_dd dd_L_law_15 39 (1166, .lcmp, 1) rfl) ?_
      refine mx_if_eq (pc := 1167) 1172 (mx_dd dd_L_law_16 0 (1167, .ifCond .eq 5, 3) rfl) rfl (fun c1167 => ?_) (fun c1167 => ?_)
      · have P := P.1 c1167
        refine mx_sel [2, 3, 4, 5, 6] rfl ?_
        exact P
      · have P := P.2 c1167
        refine mx_iconst (pc := 1170) (v := (0 : Int32)) (mx_dd dd_L_law_16 1 (1170, .iconst 0, 1) rfl) (by decide) ?_
        exact mx_ireturn (pc := 1171) (mx_dd dd_L_law_16 2 (1171, .ireturn, 1) rfl) rfl rfl P
  · have P := P.2 c1150
    refine mx_iconst (pc := 1153) (v := (0 : Int32)) (mx_dd dd_L_law_15 30 (1153, .iconst 0, 1) rfl) (by decide) ?_
    exact mx_ireturn (pc := 1154) (mx_dd dd_L_law_15 31 (1154, .ireturn, 1) rfl) rfl rfl P
theorem b_L_law_1172 {d : Nat} {h : mxH} {Q : mxRes → mxH → Prop} (x1 : Nat) (x2 : Nat) (x3 : Nat) (x4 : Int32)
    (P : mx_SX mY_L_law d 1326 [(0, .ref 0), (1, .ref x1), (2, .ref x2), (3, .ref x3), (4, .int x4)] [] h Q) : mx_SX mY_L_law d 1172 [(0, .ref 0), (1, .ref x1), (2, .ref x2), (3, .ref x3), (4, .int x4)] [] h Q := by
  refine mx_goto (pc := 1172) 1326 (mx_dd dd_L_law_16 3 (1172, .goto 154, 3) rfl) rfl ?_
  exact P
theorem b_L_law_1175 {d : Nat} {h : mxH} {Q : mxRes → mxH → Prop} (x1 : Nat) (x2 : Nat) (x3 : Nat) (x4 : Int32)
    (P : vp_in (x4 + (1 : Int32)) (hpZ h 0) ∧ vp_in (x4 + (2 : Int32)) (hpZ h 0) ∧ 1 ≤ d ∧ hpK h x1 = 11 ∧ mx_SM mY_X11_formatVariable (d - 1) [.ref x1, .long ((((hpI h 0 (x4 + (1 : Int32)).toNatClampNeg).toInt64) <<< ((32 : Int32).toInt64 &&& 63)) ||| (((hpI h 0 (x4 + (2 : Int32)).toNatClampNeg).toInt64) &&& (4294967295 : Int64)))] h (mx_KI (fun v1 h1 => vp_in (x4 + (1 : Int32)) (hpZ h1 0) ∧ vp_in (x4 + (2 : Int32)) (hpZ h1 0) ∧ hpK h1 x2 = 12 ∧ mx_SM mY_X12_formatVariable (d - 1) [.ref x2, .long ((((hpI h1 0 (x4 + (1 : Int32)).toNatClampNeg).toInt64) <<< ((32 : Int32).toInt64 &&& 63)) ||| (((hpI h1 0 (x4 + (2 : Int32)).toNatClampNeg).toInt64) &&& (4294967295 : Int64)))] h1 (mx_KI (fun v2 h2 => ((v1 = v2 → mx_SX mY_L_law d 1326 [(0, .ref 0), (1, .ref x1), (2, .ref x2), (3, .ref x3), (4, .int x4)] [] h2 Q) ∧ (¬ v1 = v2 → Q (.inl (some (.int (0 : Int32)))) h2))) (mx_XX mY_L_law Q))) (mx_XX mY_L_law Q))) : mx_SX mY_L_law d 1175 [(0, .ref 0), (1, .ref x1), (2, .ref x2), (3, .ref x3), (4, .int x4)] [] h Q := by
  refine mx_aload_n (pc := 1175) 1 (mx_dd dd_L_law_16 4 (1175, .aload_n 1, 1) rfl) rfl rfl ?_
  refine mx_aload_n (pc := 1176) 0 (mx_dd dd_L_law_16 5 (1176, .aload_n 0, 1) rfl) rfl rfl ?_
  refine mx_iload (pc := 1177) 4 (mx_dd dd_L_law_16 6 (1177, .iload 4, 2) rfl) rfl ?_
  refine mx_iconst (pc := 1179) (v := (1 : Int32)) (mx_dd dd_L_law_16 7 (1179, .iconst 1, 1) rfl) (by decide) ?_
  refine mx_iadd (pc := 1180) (mx_dd dd_L_law_16 8 (1180, .iadd, 1) rfl) ?_
  obtain ⟨g1, P⟩ := P
  refine mx_xiald (pc := 1181) g1 (mx_dd dd_L_law_16 9 (1181, .iaload, 1) rfl) ?_
  refine mx_i2l (pc := 1182) (mx_dd dd_L_law_16 10 (1182, .i2l, 1) rfl) ?_
  refine mx_bipush (pc := 1183) (v := (32 : Int32)) (mx_dd dd_L_law_16 11 (1183, .bipush 32, 2) rfl) (by decide) ?_
  refine mx_lshl (pc := 1185) (mx_dd dd_L_law_16 12 (1185, .lshl, 1) rfl) ?_
  refine mx_aload_n (pc := 1186) 0 (mx_dd dd_L_law_16 13 (1186, .aload_n 0, 1) rfl) rfl rfl ?_
  refine mx_iload (pc := 1187) 4 (mx_dd dd_L_law_16 14 (1187, .iload 4, 2) rfl) rfl ?_
  refine mx_iconst (pc := 1189) (v := (2 : Int32)) (mx_dd dd_L_law_16 15 (1189, .iconst 2, 1) rfl) (by decide) ?_
  refine mx_iadd (pc := 1190) (mx_dd dd_L_law_16 16 (1190, .iadd, 1) rfl) ?_
  obtain ⟨g2, P⟩ := P
  refine mx_xiald (pc := 1191) g2 (mx_dd dd_L_law_16 17 (1191, .iaload, 1) rfl) ?_
  refine mx_i2l (pc := 1192) (mx_dd dd_L_law_16 18 (1192, .i2l, 1) rfl) ?_
  refine mx_ldc2 (pc := 1193) mx_cL_L_125 (mx_dd dd_L_law_16 19 (1193, .ldc2_w 125, 3) rfl) ?_
  refine mx_land (pc := 1196) (mx_dd dd_L_law_16 20 (1196, .land, 1) rfl) ?_
  refine mx_lor (pc := 1197) (mx_dd dd_L_law_16 21 (1197, .lor, 1) rfl) ?_
  obtain ⟨g3, P⟩ := P
  obtain ⟨g4, P⟩ := P
  refine mx_cVI (pc := 1198) (Y := mY_X11_formatVariable) (As := [.long _]) mx_ml_L_185 mx_y_X11_formatVariable rfl g4 (by decide) rfl (by decide) rfl (mx_dd dd_L_law_16 22 (1198, .invokevirtual 185, 3) rfl) g3 (by decide) P (fun v1 h1 P => ?_)
  refine mx_aload_n (pc := 1201) 2 (mx_dd dd_L_law_16 23 (1201, .aload_n 2, 1) rfl) rfl rfl ?_
  refine mx_aload_n (pc := 1202) 0 (mx_dd dd_L_law_16 24 (1202, .aload_n 0, 1) rfl) rfl rfl ?_
  refine mx_iload (pc := 1203) 4 (mx_dd dd_L_law_16 25 (1203, .iload 4, 2) rfl) rfl ?_
  refine mx_iconst (pc := 1205) (v := (1 : Int32)) (mx_dd dd_L_law_16 26 (1205, .iconst 1, 1) rfl) (by decide) ?_
  refine mx_iadd (pc := 1206) (mx_dd dd_L_law_16 27 (1206, .iadd, 1) rfl) ?_
  obtain ⟨g5, P⟩ := P
  refine mx_xiald (pc := 1207) g5 (mx_dd dd_L_law_16 28 (1207, .iaload, 1) rfl) ?_
  refine mx_i2l (pc := 1208) (mx_dd dd_L_law_16 29 (1208, .i2l, 1) rfl) ?_
  refine mx_bipush (pc := 1209) (v := (32 : Int32)) (mx_dd dd_L_law_16 30 (1209, .bipush 32, 2) rfl) (by decide) ?_
  refine mx_lshl (pc := 1211) (mx_dd dd_L_law_16 31 (1211, .lshl, 1) rfl) ?_
  refine mx_aload_n (pc := 1212) 0 (mx_dd dd_L_law_16 32 (1212, .aload_n 0, 1) rfl) rfl rfl ?_
  refine mx_iload (pc := 1213) 4 (mx_dd dd_L_law_16 33 (1213, .iload 4, 2) rfl) rfl ?_
  refine mx_iconst (pc := 1215) (v := (2 : Int32)) (mx_dd dd_L_law_16 34 (1215, .iconst 2, 1) rfl) (by decide) ?_
  refine mx_iadd (pc := 1216) (mx_dd dd_L_law_16 35 (1216, .iadd, 1) rfl) ?_
  obtain ⟨g6, P⟩ := P
  refine mx_xiald (pc := 1217) g6 (mx_dd dd_L_law_16 36 (1217, .iaload, 1) rfl) ?_
  refine mx_i2l (pc := 1218) (mx_dd dd_L_law_16 37 (1218, .i2l, 1) rfl) ?_
  refine mx_ldc2 (pc := 1219) mx_cL_L_125 (mx_dd dd_L_law_16 38 (1219, .ldc2_w 125, 3) rfl) ?_
  refine mx_land (pc := 1222) (mx_dd dd_L_law_16 39 (1222, .land, 1) rfl) ?_
  refine mx_lor (pc := 1223) (mx_dd dd_L_law_17 0 (1223, .lor, 1) rfl) ?_
  obtain ⟨g7, P⟩ := P
  refine mx_cVI (pc := 1224) (Y := mY_X12_formatVariable) (As := [.long _]) mx_ml_L_188 mx_y_X12_formatVariable rfl g7 (by decide) rfl (by simp [Value.category]) rfl (mx_dd dd_L_law_17 1 (1224, .invokevirtual 188, 3) rfl) g3 (by decide) P (fun v2 h2 P => ?_)
  refine mx_icmp_eq (pc := 1227) 1326 (mx_dd dd_L_law_17 2 (1227, .if_icmp .eq 99, 3) rfl) rfl (fun c1227 => ?_) (fun c1227 => ?_)
  · have P := P.1 c1227
    exact P
  · have P := P.2 c1227
    refine mx_iconst (pc := 1230) (v := (0 : Int32)) (mx_dd dd_L_law_17 3 (1230, .iconst 0, 1) rfl) (by decide) ?_
    exact mx_ireturn (pc := 1231) (mx_dd dd_L_law_17 4 (1231, .ireturn, 1) rfl) rfl rfl P
theorem b_L_law_1232 {d : Nat} {h : mxH} {Q : mxRes → mxH → Prop} (x1 : Nat) (x2 : Nat) (x3 : Nat) (x4 : Int32)
    (P : 1 ≤ d ∧ hpK h x1 = 11 ∧ mx_SM mY_X11_formatHandles (d - 1) [.ref x1] h (mx_KI (fun v1 h1 => hpK h1 x2 = 12 ∧ mx_SM mY_X12_formatHandles (d - 1) [.ref x2] h1 (mx_KI (fun v2 h2 => ((v1 = v2 → mx_SX mY_L_law d 1326 [(0, .ref 0), (1, .ref x1), (2, .ref x2), (3, .ref x3), (4, .int x4)] [] h2 Q) ∧ (¬ v1 = v2 → Q (.inl (some (.int (0 : Int32)))) h2))) (mx_XX mY_L_law Q))) (mx_XX mY_L_law Q))) : mx_SX mY_L_law d 1232 [(0, .ref 0), (1, .ref x1), (2, .ref x2), (3, .ref x3), (4, .int x4)] [] h Q := by
  refine mx_aload_n (pc := 1232) 1 (mx_dd dd_L_law_17 5 (1232, .aload_n 1, 1) rfl) rfl rfl ?_
  obtain ⟨g1, P⟩ := P
  obtain ⟨g2, P⟩ := P
  refine mx_cVI (pc := 1233) (Y := mY_X11_formatHandles) (As := []) mx_ml_L_189 mx_y_X11_formatHandles rfl g2 (by decide) rfl (by decide) rfl (mx_dd dd_L_law_17 6 (1233, .invokevirtual 189, 3) rfl) g1 (by decide) P (fun v1 h1 P => ?_)
  refine mx_aload_n (pc := 1236) 2 (mx_dd dd_L_law_17 7 (1236, .aload_n 2, 1) rfl) rfl rfl ?_
  obtain ⟨g3, P⟩ := P
  refine mx_cVI (pc := 1237) (Y := mY_X12_formatHandles) (As := []) mx_ml_L_192 mx_y_X12_formatHandles rfl g3 (by decide) rfl (by simp [Value.category]) rfl (mx_dd dd_L_law_17 8 (1237, .invokevirtual 192, 3) rfl) g1 (by decide) P (fun v2 h2 P => ?_)
  refine mx_icmp_eq (pc := 1240) 1326 (mx_dd dd_L_law_17 9 (1240, .if_icmp .eq 86, 3) rfl) rfl (fun c1240 => ?_) (fun c1240 => ?_)
  · have P := P.1 c1240
    exact P
  · have P := P.2 c1240
    refine mx_iconst (pc := 1243) (v := (0 : Int32)) (mx_dd dd_L_law_17 10 (1243, .iconst 0, 1) rfl) (by decide) ?_
    exact mx_ireturn (pc := 1244) (mx_dd dd_L_law_17 11 (1244, .ireturn, 1) rfl) rfl rfl P
theorem b_L_law_1245 {d : Nat} {h : mxH} {Q : mxRes → mxH → Prop} (x1 : Nat) (x2 : Nat) (x3 : Nat) (x4 : Int32)
    (P : vp_in (x4 + (1 : Int32)) (hpZ h 0) ∧ 1 ≤ d ∧ mx_SM mY_L_formatName (d - 1) [.ref x1, .int (hpI h 0 (x4 + (1 : Int32)).toNatClampNeg), .ref x3] h (mx_KI (fun v1 h1 => vp_in (x4 + (1 : Int32)) (hpZ h1 0) ∧ hpK h1 x2 = 12 ∧ mx_SM mY_X12_formatName (d - 1) [.ref x2, .int (hpI h1 0 (x4 + (1 : Int32)).toNatClampNeg)] h1 (mx_KI (fun v2 h2 => hpK h2 x2 = 12 ∧ mx_SM mY_X12_thrown (d - 1) [.ref x2] h2 (mx_KI (fun v3 h3 => ((v3 = v1 → ((¬ v1 = 0 → mx_SX mY_L_law d 1298 [(0, .ref 0), (1, .ref x1), (2, .ref x2), (3, .ref x3), (4, .int x4)] [] h3 Q) ∧ (v1 = 0 → hpK h3 x3 = 15 ∧ vp_in (0 : Int32) (hpZ h3 x3) ∧ (((lg_cmp (hpL h3 x3 (0 : Int32).toNatClampNeg) (v2.toInt64)) = 0 → mx_SX mY_L_law d 1298 [(0, .ref 0), (1, .ref x1), (2, .ref x2), (3, .ref x3), (4, .int x4)] [] h3 Q) ∧ (¬ (lg_cmp (hpL h3 x3 (0 : Int32).toNatClampNeg) (v2.toInt64)) = 0 → Q (.inl (some (.int (0 : Int32)))) h3))))) ∧ (¬ v3 = v1 → Q (.inl (some (.int (0 : Int32)))) h3))) (mx_XX mY_L_law Q))) (mx_XX mY_L_law Q))) (fun _ _ => False))) : mx_SX mY_L_law d 1245 [(0, .ref 0), (1, .ref x1), (2, .ref x2), (3, .ref x3), (4, .int x4)] [] h Q := by
  refine mx_aload_n (pc := 1245) 1 (mx_dd dd_L_law_17 12 (1245, .aload_n 1, 1) rfl) rfl rfl ?_
  refine mx_aload_n (pc := 1246) 0 (mx_dd dd_L_law_17 13 (1246, .aload_n 0, 1) rfl) rfl rfl ?_
  refine mx_iload (pc := 1247) 4 (mx_dd dd_L_law_17 14 (1247, .iload 4, 2) rfl) rfl ?_
  refine mx_iconst (pc := 1249) (v := (1 : Int32)) (mx_dd dd_L_law_17 15 (1249, .iconst 1, 1) rfl) (by decide) ?_
  refine mx_iadd (pc := 1250) (mx_dd dd_L_law_17 16 (1250, .iadd, 1) rfl) ?_
  obtain ⟨g1, P⟩ := P
  refine mx_xiald (pc := 1251) g1 (mx_dd dd_L_law_17 17 (1251, .iaload, 1) rfl) ?_
  refine mx_aload_n (pc := 1252) 3 (mx_dd dd_L_law_17 18 (1252, .aload_n 3, 1) rfl) rfl rfl ?_
  obtain ⟨g2, P⟩ := P
  refine mx_cSWI (pc := 1253) (Y := mY_L_formatName) (As := [.ref _, .int _, .ref _]) mx_ml_L_193 mx_y_L_formatName (by decide) rfl (by decide) rfl (mx_dd dd_L_law_17 19 (1253, .invokestatic 193, 3) rfl) g2 (by decide) P (fun v1 h1 P => ?_)
  refine mx_istore (pc := 1256) (mx_dd dd_L_law_17 20 (1256, .istore 5, 2) rfl) (by decide) (lv' := [(5, _), (0, _), (1, _), (2, _), (3, _), (4, _)]) rfl ?_
  refine mx_aload_n (pc := 1258) 3 (mx_dd dd_L_law_17 21 (1258, .aload_n 2, 1) rfl) rfl rfl ?_
  refine mx_aload_n (pc := 1259) 1 (mx_dd dd_L_law_17 22 (1259, .aload_n 0, 1) rfl) rfl rfl ?_
  refine mx_iload (pc := 1260) 5 (mx_dd dd_L_law_17 23 (1260, .iload 4, 2) rfl) rfl ?_
  refine mx_iconst (pc := 1262) (v := (1 : Int32)) (mx_dd dd_L_law_17 24 (1262, .iconst 1, 1) rfl) (by decide) ?_
  refine mx_iadd (pc := 1263) (mx_dd dd_L_law_17 25 (1263, .iadd, 1) rfl) ?_
  obtain ⟨g3, P⟩ := P
  refine mx_xiald (pc := 1264) g3 (mx_dd dd_L_law_17 26 (1264, .iaload, 1) rfl) ?_
  obtain ⟨g4, P⟩ := P
  refine mx_cVI (pc := 1265) (Y := mY_X12_formatName) (As := [.int _]) mx_ml_L_195 mx_y_X12_formatName rfl g4 (by decide) rfl (by decide) rfl (mx_dd dd_L_law_17 27 (1265, .invokevirtual 195, 3) rfl) g2 (by decide) P (fun v2 h2 P => ?_)
  refine mx_istore (pc := 1268) (mx_dd dd_L_law_17 28 (1268, .istore 6, 2) rfl) (by decide) (lv' := [(6, _), (5, _), (0, _), (1, _), (2, _), (3, _), (4, _)]) rfl ?_
  refine mx_aload_n (pc := 1270) 4 (mx_dd dd_L_law_17 29 (1270, .aload_n 2, 1) rfl) rfl rfl ?_
  obtain ⟨g5, P⟩ := P
  refine mx_cVI (pc := 1271) (Y := mY_X12_thrown) (As := []) mx_ml_L_66 mx_y_X12_thrown rfl g5 (by decide) rfl (by decide) rfl (mx_dd dd_L_law_17 30 (1271, .invokevirtual 66, 3) rfl) g2 (by decide) P (fun v3 h3 P => ?_)
  refine mx_iload (pc := 1274) 1 (mx_dd dd_L_law_17 31 (1274, .iload 5, 2) rfl) rfl ?_
  refine mx_icmp_eq (pc := 1276) 1281 (mx_dd dd_L_law_17 32 (1276, .if_icmp .eq 5, 3) rfl) rfl (fun c1276 => ?_) (fun c1276 => ?_)
  · have P := P.1 c1276
    refine mx_iload (pc := 1281) 1 (mx_dd dd_L_law_17 35 (1281, .iload 5, 2) rfl) rfl ?_
    refine mx_if_ne (pc := 1283) 1298 (mx_dd dd_L_law_17 36 (1283, .ifCond .ne 15, 3) rfl) rfl (fun c1283 => ?_) (fun c1283 => ?_)
    · have P := P.1 c1283
      refine mx_sel [2, 3, 4, 5, 6] rfl ?_
      exact P
    · have P := P.2 c1283
      refine mx_aload_n (pc := 1286) 5 (mx_dd dd_L_law_17 37 (1286, .aload_n 3, 1) rfl) rfl rfl ?_
      refine mx_iconst (pc := 1287) (v := (0 : Int32)) (mx_dd dd_L_law_17 38 (1287, .iconst 0, 1) rfl) (by decide) ?_
      obtain ⟨g6, P⟩ := P
      obtain ⟨g7, P⟩ := P
      refine mx_lald (pc := 1288) g6 g7 (mx_dd dd_L_law_17 39 (1288, .laload, 1) rfl) ?_
      refine mx_iload (pc := 1289) 0 (mx_dd dd_L_law_18 0 (1289, .iload 6, 2) rfl) rfl ?_
      refine mx_i2l (pc := 1291) (mx_dd dd_L_law_18 1 (1291, .i2l, 1) rfl) ?_
      refine mx_lcmp (pc := 1292) (mx_dd dd_L_law_18 2 (1292, .lcmp, 1) rfl) ?_
      refine mx_if_eq (pc := 1293) 1298 (mx_dd dd_L_law_18 3 (1293, .ifCond .eq 5, 3) rfl) rfl (fun c1293 => ?_) (fun c1293 => ?_)
      · have P := P.1 c1293
        refine mx_sel [2, 3, 4, 5, 6] rfl ?_
        exact P
      · have P := P.2 c1293
        refine mx_iconst (pc := 1296) (v := (0 : Int32)) (mx_dd dd_L_law_18 4 (1296, .iconst 0, 1) rfl) (by decide) ?_
        exact mx_ireturn (pc := 1297) (mx_dd dd_L_law_18 5 (1297, .ireturn, 1) rfl) rfl rfl P
  · have P := P.2 c1276
    refine mx_iconst (pc := 1279) (v := (0 : Int32)) (mx_dd dd_L_law_17 33 (1279, .iconst 0, 1) rfl) (by decide) ?_
    exact mx_ireturn (pc := 1280) (mx_dd dd_L_law_17 34 (1280, .ireturn, 1) rfl) rfl rfl P
theorem b_L_law_1298 {d : Nat} {h : mxH} {Q : mxRes → mxH → Prop} (x1 : Nat) (x2 : Nat) (x3 : Nat) (x4 : Int32)
    (P : mx_SX mY_L_law d 1326 [(0, .ref 0), (1, .ref x1), (2, .ref x2), (3, .ref x3), (4, .int x4)] [] h Q) : mx_SX mY_L_law d 1298 [(0, .ref 0), (1, .ref x1), (2, .ref x2), (3, .ref x3), (4, .int x4)] [] h Q := by
  refine mx_goto (pc := 1298) 1326 (mx_dd dd_L_law_18 6 (1298, .goto 28, 3) rfl) rfl ?_
  exact P
theorem b_L_law_1301 {d : Nat} {h : mxH} {Q : mxRes → mxH → Prop} (x1 : Nat) (x2 : Nat) (x3 : Nat) (x4 : Int32)
    (P : vp_in (x4 + (1 : Int32)) (hpZ h 0) ∧ 1 ≤ d ∧ hpK h x1 = 11 ∧ mx_SM mY_X11_formattedByte (d - 1) [.ref x1, .int (hpI h 0 (x4 + (1 : Int32)).toNatClampNeg)] h (mx_KI (fun v1 h1 => vp_in (x4 + (1 : Int32)) (hpZ h1 0) ∧ hpK h1 x2 = 12 ∧ mx_SM mY_X12_formattedByte (d - 1) [.ref x2, .int (hpI h1 0 (x4 + (1 : Int32)).toNatClampNeg)] h1 (mx_KI (fun v2 h2 => ((v1 = v2 → mx_SX mY_L_law d 1326 [(0, .ref 0), (1, .ref x1), (2, .ref x2), (3, .ref x3), (4, .int x4)] [] h2 Q) ∧ (¬ v1 = v2 → Q (.inl (some (.int (0 : Int32)))) h2))) (mx_XX mY_L_law Q))) (mx_XX mY_L_law Q))) : mx_SX mY_L_law d 1301 [(0, .ref 0), (1, .ref x1), (2, .ref x2), (3, .ref x3), (4, .int x4)] [] h Q := by
  refine mx_aload_n (pc := 1301) 1 (mx_dd dd_L_law_18 7 (1301, .aload_n 1, 1) rfl) rfl rfl ?_
  refine mx_aload_n (pc := 1302) 0 (mx_dd dd_L_law_18 8 (1302, .aload_n 0, 1) rfl) rfl rfl ?_
  refine mx_iload (pc := 1303) 4 (mx_dd dd_L_law_18 9 (1303, .iload 4, 2) rfl) rfl ?_
  refine mx_iconst (pc := 1305) (v := (1 : Int32)) (mx_dd dd_L_law_18 10 (1305, .iconst 1, 1) rfl) (by decide) ?_
  refine mx_iadd (pc := 1306) (mx_dd dd_L_law_18 11 (1306, .iadd, 1) rfl) ?_
  obtain ⟨g1, P⟩ := P
  refine mx_xiald (pc := 1307) g1 (mx_dd dd_L_law_18 12 (1307, .iaload, 1) rfl) ?_
  obtain ⟨g2, P⟩ := P
  obtain ⟨g3, P⟩ := P
  refine mx_cVI (pc := 1308) (Y := mY_X11_formattedByte) (As := [.int _]) mx_ml_L_196 mx_y_X11_formattedByte rfl g3 (by decide) rfl (by decide) rfl (mx_dd dd_L_law_18 13 (1308, .invokevirtual 196, 3) rfl) g2 (by decide) P (fun v1 h1 P => ?_)
  refine mx_aload_n (pc := 1311) 2 (mx_dd dd_L_law_18 14 (1311, .aload_n 2, 1) rfl) rfl rfl ?_
  refine mx_aload_n (pc := 1312) 0 (mx_dd dd_L_law_18 15 (1312, .aload_n 0, 1) rfl) rfl rfl ?_
  refine mx_iload (pc := 1313) 4 (mx_dd dd_L_law_18 16 (1313, .iload 4, 2) rfl) rfl ?_
  refine mx_iconst (pc := 1315) (v := (1 : Int32)) (mx_dd dd_L_law_18 17 (1315, .iconst 1, 1) rfl) (by decide) ?_
  refine mx_iadd (pc := 1316) (mx_dd dd_L_law_18 18 (1316, .iadd, 1) rfl) ?_
  obtain ⟨g4, P⟩ := P
  refine mx_xiald (pc := 1317) g4 (mx_dd dd_L_law_18 19 (1317, .iaload, 1) rfl) ?_
  obtain ⟨g5, P⟩ := P
  refine mx_cVI (pc := 1318) (Y := mY_X12_formattedByte) (As := [.int _]) mx_ml_L_199 mx_y_X12_formattedByte rfl g5 (by decide) rfl (by simp [Value.category]) rfl (mx_dd dd_L_law_18 20 (1318, .invokevirtual 199, 3) rfl) g2 (by decide) P (fun v2 h2 P => ?_)
  refine mx_icmp_eq (pc := 1321) 1326 (mx_dd dd_L_law_18 21 (1321, .if_icmp .eq 5, 3) rfl) rfl (fun c1321 => ?_) (fun c1321 => ?_)
  · have P := P.1 c1321
    exact P
  · have P := P.2 c1321
    refine mx_iconst (pc := 1324) (v := (0 : Int32)) (mx_dd dd_L_law_18 22 (1324, .iconst 0, 1) rfl) (by decide) ?_
    exact mx_ireturn (pc := 1325) (mx_dd dd_L_law_18 23 (1325, .ireturn, 1) rfl) rfl rfl P
theorem b_L_law_1326 {d : Nat} {h : mxH} {Q : mxRes → mxH → Prop} (x1 : Nat) (x2 : Nat) (x3 : Nat) (x4 : Int32)
    (P : mx_SX mY_L_law d 23 [(0, .ref 0), (1, .ref x1), (2, .ref x2), (3, .ref x3), (4, .int (x4 + (6 : Int32)))] [] h Q) : mx_SX mY_L_law d 1326 [(0, .ref 0), (1, .ref x1), (2, .ref x2), (3, .ref x3), (4, .int x4)] [] h Q := by
  refine mx_iinc (pc := 1326) 4 (mx_dd dd_L_law_18 24 (1326, .iinc 4 6, 3) rfl) rfl (mx_kadd (by decide : Int32.ofInt 6 = (6 : Int32))) (by decide) (lv' := [(4, _), (0, _), (1, _), (2, _), (3, _)]) rfl ?_
  refine mx_goto (pc := 1329) 23 (mx_dd dd_L_law_18 25 (1329, .goto (-1306), 3) rfl) rfl ?_
  refine mx_sel [1, 2, 3, 4, 0] rfl ?_
  exact P
