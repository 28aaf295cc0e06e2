/-! THROWS of the class: the words at its sites -/
theorem mx_ats {own E : String} {ic : Nat} {names : List String} (h : (vx_atS own ic E names).all (fun w => decide (w ∈ lw_tbl) && ((goodWord w || mx_softk w) && vx_ot w)) = true) :
    (∀ w ∈ vx_atS own ic E names, w ∈ mx_tbl ∨ (w ∈ lw_tbl ∧ mx_softk w = true)) ∧ ∀ w ∈ vx_atS own ic E names, vx_ot w = true := by
  refine ⟨fun w hw => ?_, fun w hw => ?_⟩
  · have := List.all_eq_true.mp h w hw
    rw [Bool.and_eq_true, Bool.and_eq_true, Bool.or_eq_true] at this
    obtain ⟨g1, g2 | g2, _⟩ := this
    · exact Or.inl (List.mem_filter.mpr ⟨of_decide_eq_true g1, g2⟩)
    · exact Or.inr ⟨of_decide_eq_true g1, g2⟩
  · have := List.all_eq_true.mp h w hw
    rw [Bool.and_eq_true, Bool.and_eq_true, Bool.or_eq_true] at this
    exact this.2.2
theorem mx_ats_X6_64 : (vx_atS RX6 64 "java/lang/IllegalArgumentException" ["java/lang/RuntimeException", "java/lang/Exception"]).all (fun w => decide (w ∈ lw_tbl) && ((goodWord w || mx_softk w) && vx_ot w)) = true := by decide +kernel
theorem mx_thk_X6_64 : Cond.classLink RX6 60 "java/lang/IllegalArgumentException" ∈ mx_tbl := (mx_im mx_t6 49 rfl rfl)
theorem mx_thi_X6_64 : Cond.initialized "java/lang/IllegalArgumentException" ∈ mx_tbl := (mx_im mx_t1 22 rfl rfl)
theorem mx_thg_X6_64 : ∀ w ∈ Cond.classLink RX6 60 "java/lang/IllegalArgumentException" :: Cond.initialized "java/lang/IllegalArgumentException" :: vx_atS RX6 64 "java/lang/IllegalArgumentException" ["java/lang/RuntimeException", "java/lang/Exception"], vx_ot w = true := by
  intro w hw
  rcases List.mem_cons.mp hw with rfl | hw
  · rfl
  rcases List.mem_cons.mp hw with rfl | hw
  · rfl
  exact (mx_ats mx_ats_X6_64).2 w hw
theorem mx_th_X6_fail_13 {d : Nat} {h : mxH} {lv : List (Nat × Value)} {Q : mxRes → mxH → Prop} (hd : 12 ≤ d) (hq : Q (.inr "java/lang/IllegalArgumentException") (hth h)) : mx_SX mY_X6_fail d 13 lv [] h Q :=
  mx_throw (pc := 13) (i := 0) ["java/lang/RuntimeException", "java/lang/Exception"] mx_thk_X6_64 mx_thi_X6_64 rfl (mx_ats mx_ats_X6_64).1 mx_thg_X6_64 (by decide) (by decide) (mx_dd dd_X6_fail 7 (13, .new 60, 3) rfl) (mx_dd dd_X6_fail 8 (16, .dup, 1) rfl) (mx_dd dd_X6_fail 9 (17, .ldc 62, 2) rfl) (mx_dd dd_X6_fail 10 (19, .invokespecial 64, 3) rfl) (mx_dd dd_X6_fail 11 (22, .athrow, 1) rfl) (by show 2 + 3 < d; omega) (by decide) rfl hq
theorem mx_ats_X11_105 : (vx_atS RX11 105 "java/lang/IllegalStateException" ["java/lang/RuntimeException", "java/lang/Exception"]).all (fun w => decide (w ∈ lw_tbl) && ((goodWord w || mx_softk w) && vx_ot w)) = true := by decide +kernel
theorem mx_thk_X11_105 : Cond.classLink RX11 101 "java/lang/IllegalStateException" ∈ mx_tbl := (mx_im mx_t7 39 rfl rfl)
theorem mx_thi_X11_105 : Cond.initialized "java/lang/IllegalStateException" ∈ mx_tbl := (mx_im mx_t1 23 rfl rfl)
theorem mx_thg_X11_105 : ∀ w ∈ Cond.classLink RX11 101 "java/lang/IllegalStateException" :: Cond.initialized "java/lang/IllegalStateException" :: vx_atS RX11 105 "java/lang/IllegalStateException" ["java/lang/RuntimeException", "java/lang/Exception"], vx_ot w = true := by
  intro w hw
  rcases List.mem_cons.mp hw with rfl | hw
  · rfl
  rcases List.mem_cons.mp hw with rfl | hw
  · rfl
  exact (mx_ats mx_ats_X11_105).2 w hw
theorem mx_th_X11_type_28 {d : Nat} {h : mxH} {lv : List (Nat × Value)} {Q : mxRes → mxH → Prop} (hd : 12 ≤ d) (hq : Q (.inr "java/lang/IllegalStateException") (hth h)) : mx_SX mY_X11_type d 28 lv [] h Q :=
  mx_throw (pc := 28) (i := 1) ["java/lang/RuntimeException", "java/lang/Exception"] mx_thk_X11_105 mx_thi_X11_105 rfl (mx_ats mx_ats_X11_105).1 mx_thg_X11_105 (by decide) (by decide) (mx_dd dd_X11_type_0 15 (28, .new 101, 3) rfl) (mx_dd dd_X11_type_0 16 (31, .dup, 1) rfl) (mx_dd dd_X11_type_0 17 (32, .ldc 103, 2) rfl) (mx_dd dd_X11_type_0 18 (34, .invokespecial 105, 3) rfl) (mx_dd dd_X11_type_0 19 (37, .athrow, 1) rfl) (by show 2 + 3 < d; omega) (by decide) rfl hq
theorem mx_ats_X11_162 : (vx_atS RX11 162 "java/lang/IndexOutOfBoundsException" ["java/lang/RuntimeException", "java/lang/Exception"]).all (fun w => decide (w ∈ lw_tbl) && ((goodWord w || mx_softk w) && vx_ot w)) = true := by decide +kernel
theorem mx_thk_X11_162 : Cond.classLink RX11 158 "java/lang/IndexOutOfBoundsException" ∈ mx_tbl := (mx_im mx_t7 68 rfl rfl)
theorem mx_thi_X11_162 : Cond.initialized "java/lang/IndexOutOfBoundsException" ∈ mx_tbl := (mx_im mx_t1 25 rfl rfl)
theorem mx_thg_X11_162 : ∀ w ∈ Cond.classLink RX11 158 "java/lang/IndexOutOfBoundsException" :: Cond.initialized "java/lang/IndexOutOfBoundsException" :: vx_atS RX11 162 "java/lang/IndexOutOfBoundsException" ["java/lang/RuntimeException", "java/lang/Exception"], vx_ot w = true := by
  intro w hw
  rcases List.mem_cons.mp hw with rfl | hw
  · rfl
  rcases List.mem_cons.mp hw with rfl | hw
  · rfl
  exact (mx_ats mx_ats_X11_162).2 w hw
theorem mx_th_X11_handleKind_10 {d : Nat} {h : mxH} {lv : List (Nat × Value)} {Q : mxRes → mxH → Prop} (hd : 12 ≤ d) (hq : Q (.inr "java/lang/IndexOutOfBoundsException") (hth h)) : mx_SX mY_X11_handleKind d 10 lv [] h Q :=
  mx_throw (pc := 10) (i := 2) ["java/lang/RuntimeException", "java/lang/Exception"] mx_thk_X11_162 mx_thi_X11_162 rfl (mx_ats mx_ats_X11_162).1 mx_thg_X11_162 (by decide) (by decide) (mx_dd dd_X11_handleKind 5 (10, .new 158, 3) rfl) (mx_dd dd_X11_handleKind 6 (13, .dup, 1) rfl) (mx_dd dd_X11_handleKind 7 (14, .ldc 160, 2) rfl) (mx_dd dd_X11_handleKind 8 (16, .invokespecial 162, 3) rfl) (mx_dd dd_X11_handleKind 9 (19, .athrow, 1) rfl) (by show 2 + 3 < d; omega) (by decide) rfl hq
theorem mx_th_X11_actionOf_9 {d : Nat} {h : mxH} {lv : List (Nat × Value)} {Q : mxRes → mxH → Prop} (hd : 12 ≤ d) (hq : Q (.inr "java/lang/IndexOutOfBoundsException") (hth h)) : mx_SX mY_X11_actionOf d 9 lv [] h Q :=
  mx_throw (pc := 9) (i := 3) ["java/lang/RuntimeException", "java/lang/Exception"] mx_thk_X11_162 mx_thi_X11_162 rfl (mx_ats mx_ats_X11_162).1 mx_thg_X11_162 (by decide) (by decide) (mx_dd dd_X11_actionOf 5 (9, .new 158, 3) rfl) (mx_dd dd_X11_actionOf 6 (12, .dup, 1) rfl) (mx_dd dd_X11_actionOf 7 (13, .ldc 188, 2) rfl) (mx_dd dd_X11_actionOf 8 (15, .invokespecial 162, 3) rfl) (mx_dd dd_X11_actionOf 9 (18, .athrow, 1) rfl) (by show 2 + 3 < d; omega) (by decide) rfl hq
theorem mx_th_X11_checkFile_15 {d : Nat} {h : mxH} {lv : List (Nat × Value)} {Q : mxRes → mxH → Prop} (hd : 12 ≤ d) (hq : Q (.inr "java/lang/IndexOutOfBoundsException") (hth h)) : mx_SX mY_X11_checkFile d 15 lv [] h Q :=
  mx_throw (pc := 15) (i := 4) ["java/lang/RuntimeException", "java/lang/Exception"] mx_thk_X11_162 mx_thi_X11_162 rfl (mx_ats mx_ats_X11_162).1 mx_thg_X11_162 (by decide) (by decide) (mx_dd dd_X11_checkFile 7 (15, .new 158, 3) rfl) (mx_dd dd_X11_checkFile 8 (18, .dup, 1) rfl) (mx_dd dd_X11_checkFile 9 (19, .ldc 209, 2) rfl) (mx_dd dd_X11_checkFile 10 (21, .invokespecial 162, 3) rfl) (mx_dd dd_X11_checkFile 11 (24, .athrow, 1) rfl) (by show 2 + 3 < d; omega) (by decide) rfl hq
theorem mx_th_X11_traceField_15 {d : Nat} {h : mxH} {lv : List (Nat × Value)} {Q : mxRes → mxH → Prop} (hd : 12 ≤ d) (hq : Q (.inr "java/lang/IndexOutOfBoundsException") (hth h)) : mx_SX mY_X11_traceField d 15 lv [] h Q :=
  mx_throw (pc := 15) (i := 5) ["java/lang/RuntimeException", "java/lang/Exception"] mx_thk_X11_162 mx_thi_X11_162 rfl (mx_ats mx_ats_X11_162).1 mx_thg_X11_162 (by decide) (by decide) (mx_dd dd_X11_traceField 7 (15, .new 158, 3) rfl) (mx_dd dd_X11_traceField 8 (18, .dup, 1) rfl) (mx_dd dd_X11_traceField 9 (19, .ldc 218, 2) rfl) (mx_dd dd_X11_traceField 10 (21, .invokespecial 162, 3) rfl) (mx_dd dd_X11_traceField 11 (24, .athrow, 1) rfl) (by show 2 + 3 < d; omega) (by decide) rfl hq
theorem mx_ats_X11_224 : (vx_atS RX11 224 "java/lang/IllegalArgumentException" ["java/lang/RuntimeException", "java/lang/Exception"]).all (fun w => decide (w ∈ lw_tbl) && ((goodWord w || mx_softk w) && vx_ot w)) = true := by decide +kernel
theorem mx_thk_X11_224 : Cond.classLink RX11 220 "java/lang/IllegalArgumentException" ∈ mx_tbl := (mx_im mx_t7 113 rfl rfl)
theorem mx_thi_X11_224 : Cond.initialized "java/lang/IllegalArgumentException" ∈ mx_tbl := (mx_im mx_t1 22 rfl rfl)
theorem mx_thg_X11_224 : ∀ w ∈ Cond.classLink RX11 220 "java/lang/IllegalArgumentException" :: Cond.initialized "java/lang/IllegalArgumentException" :: vx_atS RX11 224 "java/lang/IllegalArgumentException" ["java/lang/RuntimeException", "java/lang/Exception"], vx_ot w = true := by
  intro w hw
  rcases List.mem_cons.mp hw with rfl | hw
  · rfl
  rcases List.mem_cons.mp hw with rfl | hw
  · rfl
  exact (mx_ats mx_ats_X11_224).2 w hw
theorem mx_th_X11_traceField_34 {d : Nat} {h : mxH} {lv : List (Nat × Value)} {Q : mxRes → mxH → Prop} (hd : 12 ≤ d) (hq : Q (.inr "java/lang/IllegalArgumentException") (hth h)) : mx_SX mY_X11_traceField d 34 lv [] h Q :=
  mx_throw (pc := 34) (i := 6) ["java/lang/RuntimeException", "java/lang/Exception"] mx_thk_X11_224 mx_thi_X11_224 rfl (mx_ats mx_ats_X11_224).1 mx_thg_X11_224 (by decide) (by decide) (mx_dd dd_X11_traceField 17 (34, .new 220, 3) rfl) (mx_dd dd_X11_traceField 18 (37, .dup, 1) rfl) (mx_dd dd_X11_traceField 19 (38, .ldc 222, 2) rfl) (mx_dd dd_X11_traceField 20 (40, .invokespecial 224, 3) rfl) (mx_dd dd_X11_traceField 21 (43, .athrow, 1) rfl) (by show 2 + 3 < d; omega) (by decide) rfl hq
theorem mx_th_X11_formatLine_19 {d : Nat} {h : mxH} {lv : List (Nat × Value)} {Q : mxRes → mxH → Prop} (hd : 12 ≤ d) (hq : Q (.inr "java/lang/IndexOutOfBoundsException") (hth h)) : mx_SX mY_X11_formatLine d 19 lv [] h Q :=
  mx_throw (pc := 19) (i := 7) ["java/lang/RuntimeException", "java/lang/Exception"] mx_thk_X11_162 mx_thi_X11_162 rfl (mx_ats mx_ats_X11_162).1 mx_thg_X11_162 (by decide) (by decide) (mx_dd dd_X11_formatLine 11 (19, .new 158, 3) rfl) (mx_dd dd_X11_formatLine 12 (22, .dup, 1) rfl) (mx_dd dd_X11_formatLine 13 (23, .ldc 232, 2) rfl) (mx_dd dd_X11_formatLine 14 (25, .invokespecial 162, 3) rfl) (mx_dd dd_X11_formatLine 15 (28, .athrow, 1) rfl) (by show 2 + 3 < d; omega) (by decide) rfl hq
theorem mx_th_X11_formatOutput_21 {d : Nat} {h : mxH} {lv : List (Nat × Value)} {Q : mxRes → mxH → Prop} (hd : 12 ≤ d) (hq : Q (.inr "java/lang/IndexOutOfBoundsException") (hth h)) : mx_SX mY_X11_formatOutput d 21 lv [] h Q :=
  mx_throw (pc := 21) (i := 7) ["java/lang/RuntimeException", "java/lang/Exception"] mx_thk_X11_162 mx_thi_X11_162 rfl (mx_ats mx_ats_X11_162).1 mx_thg_X11_162 (by decide) (by decide) (mx_dd dd_X11_formatOutput 10 (21, .new 158, 3) rfl) (mx_dd dd_X11_formatOutput 11 (24, .dup, 1) rfl) (mx_dd dd_X11_formatOutput 12 (25, .ldc 232, 2) rfl) (mx_dd dd_X11_formatOutput 13 (27, .invokespecial 162, 3) rfl) (mx_dd dd_X11_formatOutput 14 (30, .athrow, 1) rfl) (by show 2 + 3 < d; omega) (by decide) rfl hq
