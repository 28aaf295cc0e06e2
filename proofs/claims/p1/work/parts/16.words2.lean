/-! PRINTED by wip/whole/genwords2.py out of the Statement's tables: makings, constants, copies, nests -/
theorem mx_oi_X0_3 : Cond.methodLink RX0 3 Lib.objectInit ∈ mx_tbl := (mx_im mx_t1 65 rfl rfl)
theorem mx_nw_X0_32 : mx_NL RX0 32 5 := ⟨by decide, (mx_im mx_t3 2 rfl rfl), (mx_im mx_t3 3 rfl rfl), (mx_im mx_t1 13 rfl rfl)⟩
theorem mx_nn_X0_34 : Cond.methodLinkNest RX0 34 yX5_init "ShellCore" ∈ lw_tbl := mx_t3 _ (List.mem_of_getElem? (i := 4) rfl)
theorem mx_oi_X1_3 : Cond.methodLink RX1 3 Lib.objectInit ∈ mx_tbl := (mx_im mx_t2 88 rfl rfl)
theorem mx_gs_X1_27 : Cond.fieldLink RX1 27 "ShellCore$Commands" "NAMES" "[J" ∈ mx_tbl := (mx_im mx_t6 213 rfl rfl)
theorem mx_gs_X1_31 : Cond.fieldLink RX1 31 "ShellCore$Commands" "SIGNAL_NAMES" "[J" ∈ mx_tbl := (mx_im mx_t4 209 rfl rfl)
theorem mx_nn_X1_48 : Cond.methodLinkNest RX1 48 yX11_spell "ShellCore" ∈ lw_tbl := mx_t4 _ (List.mem_of_getElem? (i := 103) rfl)
theorem mx_cL_X1_79 : Cond.constantLong RX1 79 (27) ∈ mx_tbl := (mx_im mx_t4 113 rfl rfl)
theorem mx_cL_X1_81 : Cond.constantLong RX1 81 (37) ∈ mx_tbl := (mx_im mx_t4 114 rfl rfl)
theorem mx_nn_X1_91 : Cond.methodLinkNest RX1 91 yX11_nameIn "ShellCore" ∈ lw_tbl := mx_t4 _ (List.mem_of_getElem? (i := 156) rfl)
theorem mx_nn_X1_95 : Cond.methodLinkNest RX1 95 yX11_numberIn "ShellCore" ∈ lw_tbl := mx_t4 _ (List.mem_of_getElem? (i := 229) rfl)
theorem mx_cL_X1_130 : Cond.constantLong RX1 130 (10620950253) ∈ mx_tbl := (mx_im mx_t4 211 rfl rfl)
theorem mx_cL_X1_135 : Cond.constantLong RX1 135 (637945088) ∈ mx_tbl := (mx_im mx_t4 212 rfl rfl)
theorem mx_cL_X1_137 : Cond.constantLong RX1 137 (-2) ∈ mx_tbl := (mx_im mx_t4 213 rfl rfl)
theorem mx_cL_X1_139 : Cond.constantLong RX1 139 (1543120751558) ∈ mx_tbl := (mx_im mx_t4 218 rfl rfl)
theorem mx_cL_X1_141 : Cond.constantLong RX1 141 (569) ∈ mx_tbl := (mx_im mx_t4 219 rfl rfl)
theorem mx_cL_X1_143 : Cond.constantLong RX1 143 (20763) ∈ mx_tbl := (mx_im mx_t4 220 rfl rfl)
theorem mx_oi_X2_3 : Cond.methodLink RX2 3 Lib.objectInit ∈ mx_tbl := (mx_im mx_t1 131 rfl rfl)
theorem mx_an_X2_15 : Cond.classLink RX2 15 "ShellCore$OpenFile" ∈ mx_tbl := (mx_im mx_t1 132 rfl rfl)
theorem mx_oi_X3_3 : Cond.methodLink RX3 3 Lib.objectInit ∈ mx_tbl := (mx_im mx_t1 39 rfl rfl)
theorem mx_ci_X3_11 : Cond.constant RX3 11 (256000) ∈ mx_tbl := (mx_im mx_t1 40 rfl rfl)
theorem mx_cl_X3_35 : Cond.methodLink RX3 35 arraycopyName ∈ mx_tbl := (mx_im mx_t4 121 rfl rfl)
theorem mx_oi_X4_3 : Cond.methodLink RX4 3 Lib.objectInit ∈ mx_tbl := (mx_im mx_t2 82 rfl rfl)
theorem mx_nw_X4_19 : mx_NL RX4 19 1 := ⟨by decide, (mx_im mx_t2 83 rfl rfl), (mx_im mx_t2 84 rfl rfl), (mx_im mx_t1 11 rfl rfl)⟩
theorem mx_an_X4_32 : Cond.classLink RX4 32 "ShellCore$Handles" ∈ mx_tbl := (mx_im mx_t2 105 rfl rfl)
theorem mx_nw_X4_32 : mx_NL RX4 32 2 := ⟨by decide, (mx_im mx_t2 105 rfl rfl), (mx_im mx_t1 127 rfl rfl), (mx_im mx_t1 8 rfl rfl)⟩
theorem mx_ci_X4_92 : Cond.constant RX4 92 (10000000) ∈ mx_tbl := (mx_im mx_t3 173 rfl rfl)
theorem mx_cL_X4_361 : Cond.constantLong RX4 361 (-2) ∈ mx_tbl := (mx_im mx_t4 238 rfl rfl)
theorem mx_nw_X4_59 : mx_NL RX4 59 8 := ⟨by decide, (mx_im mx_t5 69 rfl rfl), (mx_im mx_t1 99 rfl rfl), (mx_im mx_t1 5 rfl rfl)⟩
theorem mx_oi_X5_1 : Cond.methodLink RX5 1 Lib.objectInit ∈ mx_tbl := (mx_im mx_t3 7 rfl rfl)
theorem mx_oi_X6_3 : Cond.methodLink RX6 3 Lib.objectInit ∈ mx_tbl := (mx_im mx_t2 46 rfl rfl)
theorem mx_mm_X6_19 : Cond.methodLink RX6 19 Lib.Math.min.name ∈ mx_tbl := (mx_im mx_t6 23 rfl rfl)
theorem mx_nn_X6_77 : Cond.methodLinkNest RX6 77 yX11_letterValue "ShellCore" ∈ lw_tbl := mx_t6 _ (List.mem_of_getElem? (i := 39) rfl)
theorem mx_cL_X6_91 : Cond.constantLong RX6 91 (37) ∈ mx_tbl := (mx_im mx_t6 44 rfl rfl)
theorem mx_cL_X6_106 : Cond.constantLong RX6 106 (339) ∈ mx_tbl := (mx_im mx_t6 171 rfl rfl)
theorem mx_cL_X6_108 : Cond.constantLong RX6 108 (43523697) ∈ mx_tbl := (mx_im mx_t6 172 rfl rfl)
theorem mx_cL_X6_110 : Cond.constantLong RX6 110 (5667) ∈ mx_tbl := (mx_im mx_t6 173 rfl rfl)
theorem mx_cL_X6_112 : Cond.constantLong RX6 112 (1024211) ∈ mx_tbl := (mx_im mx_t6 137 rfl rfl)
theorem mx_cL_X6_114 : Cond.constantLong RX6 114 (270401) ∈ mx_tbl := (mx_im mx_t6 138 rfl rfl)
theorem mx_cL_X6_116 : Cond.constantLong RX6 116 (231) ∈ mx_tbl := (mx_im mx_t6 139 rfl rfl)
theorem mx_cL_X6_118 : Cond.constantLong RX6 118 (163) ∈ mx_tbl := (mx_im mx_t6 140 rfl rfl)
theorem mx_cL_X6_120 : Cond.constantLong RX6 120 (223670) ∈ mx_tbl := (mx_im mx_t6 141 rfl rfl)
theorem mx_oi_X7_3 : Cond.methodLink RX7 3 Lib.objectInit ∈ mx_tbl := (mx_im mx_t2 153 rfl rfl)
theorem mx_oi_X8_3 : Cond.methodLink RX8 3 Lib.objectInit ∈ mx_tbl := (mx_im mx_t1 103 rfl rfl)
theorem mx_nw_X8_9 : mx_NL RX8 9 9 := ⟨by decide, (mx_im mx_t1 104 rfl rfl), (mx_im mx_t1 105 rfl rfl), (mx_im mx_t1 6 rfl rfl)⟩
theorem mx_nw_X8_27 : mx_NL RX8 27 2 := ⟨by decide, (mx_im mx_t1 126 rfl rfl), (mx_im mx_t1 127 rfl rfl), (mx_im mx_t1 8 rfl rfl)⟩
theorem mx_an_X8_11 : Cond.classLink RX8 11 "ShellCore$Shell" ∈ mx_tbl := (mx_im mx_t1 141 rfl rfl)
theorem mx_cL_X8_90 : Cond.constantLong RX8 90 (-2) ∈ mx_tbl := (mx_im mx_t5 76 rfl rfl)
theorem mx_cl_X8_101 : Cond.methodLink RX8 101 arraycopyName ∈ mx_tbl := (mx_im mx_t3 133 rfl rfl)
theorem mx_oi_X9_3 : Cond.methodLink RX9 3 Lib.objectInit ∈ mx_tbl := (mx_im mx_t1 109 rfl rfl)
theorem mx_mm_X9_9 : Cond.methodLink RX9 9 Lib.Math.max.name ∈ mx_tbl := (mx_im mx_t1 110 rfl rfl)
theorem mx_oi_X10_3 : Cond.methodLink RX10 3 Lib.objectInit ∈ mx_tbl := (mx_im mx_t1 97 rfl rfl)
theorem mx_nw_X10_28 : mx_NL RX10 28 8 := ⟨by decide, (mx_im mx_t1 98 rfl rfl), (mx_im mx_t1 99 rfl rfl), (mx_im mx_t1 5 rfl rfl)⟩
theorem mx_cl_X10_63 : Cond.methodLink RX10 63 arraycopyName ∈ mx_tbl := (mx_im mx_t3 114 rfl rfl)
theorem mx_mm_X10_103 : Cond.methodLink RX10 103 Lib.Math.min.name ∈ mx_tbl := (mx_im mx_t5 215 rfl rfl)
theorem mx_oi_X11_1 : Cond.methodLink RX11 1 Lib.objectInit ∈ mx_tbl := (mx_im mx_t1 31 rfl rfl)
theorem mx_nw_X11_16 : mx_NL RX11 16 3 := ⟨by decide, (mx_im mx_t1 34 rfl rfl), (mx_im mx_t1 35 rfl rfl), (mx_im mx_t1 2 rfl rfl)⟩
theorem mx_nw_X11_23 : mx_NL RX11 23 0 := ⟨by decide, (mx_im mx_t1 60 rfl rfl), (mx_im mx_t1 61 rfl rfl), (mx_im mx_t1 3 rfl rfl)⟩
theorem mx_nw_X11_26 : mx_NL RX11 26 10 := ⟨by decide, (mx_im mx_t1 92 rfl rfl), (mx_im mx_t1 93 rfl rfl), (mx_im mx_t1 4 rfl rfl)⟩
theorem mx_an_X11_26 : Cond.classLink RX11 26 "ShellCore$World" ∈ mx_tbl := (mx_im mx_t1 92 rfl rfl)
theorem mx_nw_X11_39 : mx_NL RX11 39 6 := ⟨by decide, (mx_im mx_t2 41 rfl rfl), (mx_im mx_t2 42 rfl rfl), (mx_im mx_t1 9 rfl rfl)⟩
theorem mx_nw_X11_48 : mx_NL RX11 48 4 := ⟨by decide, (mx_im mx_t2 77 rfl rfl), (mx_im mx_t2 78 rfl rfl), (mx_im mx_t1 10 rfl rfl)⟩
theorem mx_nw_X11_57 : mx_NL RX11 57 7 := ⟨by decide, (mx_im mx_t2 148 rfl rfl), (mx_im mx_t2 149 rfl rfl), (mx_im mx_t1 12 rfl rfl)⟩
theorem mx_cL_X11_263 : Cond.constantLong RX11 263 (37) ∈ mx_tbl := (mx_im mx_t4 106 rfl rfl)
theorem mx_mm_X11_265 : Cond.methodLink RX11 265 Lib.Math.min.name ∈ mx_tbl := (mx_im mx_t4 107 rfl rfl)
theorem mx_cL_X12_91 : Cond.constantLong RX12 91 (37) ∈ mx_tbl := (mx_im mx_t8 95 rfl rfl)
theorem mx_mm_X12_343 : Cond.methodLink RX12 343 Lib.Math.min.name ∈ mx_tbl := (mx_im mx_t9 214 rfl rfl)
theorem mx_cL_X12_431 : Cond.constantLong RX12 431 (-2) ∈ mx_tbl := (mx_im mx_t10 27 rfl rfl)
theorem mx_oi_X12_660 : Cond.methodLink RX12 660 Lib.objectInit ∈ mx_tbl := (mx_im mx_t8 151 rfl rfl)
theorem mx_ci_X12_685 : Cond.constant RX12 685 (352000) ∈ mx_tbl := (mx_im mx_t8 163 rfl rfl)
theorem mx_ci_X12_686 : Cond.constant RX12 686 (83000) ∈ mx_tbl := (mx_im mx_t8 164 rfl rfl)
theorem mx_ci_X12_687 : Cond.constant RX12 687 (34000) ∈ mx_tbl := (mx_im mx_t8 165 rfl rfl)
theorem mx_nw_L_8 : mx_NL RL 8 11 := ⟨by decide, (mx_im mx_t1 26 rfl rfl), (mx_im mx_t1 27 rfl rfl), (mx_im mx_t1 1 rfl rfl)⟩
theorem mx_nw_L_47 : mx_NL RL 47 12 := ⟨by decide, (mx_im mx_t8 147 rfl rfl), (mx_im mx_t7 171 rfl rfl), (mx_im mx_t1 14 rfl rfl)⟩
theorem mx_cL_L_125 : Cond.constantLong RL 125 (4294967295) ∈ mx_tbl := (mx_im mx_t11 127 rfl rfl)
theorem mx_ac_13 : Cond.arrayClass (mx_tyA 13) ∈ mx_tbl := (mx_im mx_t1 57 rfl rfl)
theorem mx_ac_14 : Cond.arrayClass (mx_tyA 14) ∈ mx_tbl := (mx_im mx_t1 58 rfl rfl)
theorem mx_ac_15 : Cond.arrayClass (mx_tyA 15) ∈ mx_tbl := (mx_im mx_t1 125 rfl rfl)
theorem mx_ac_16 : Cond.arrayClass (mx_tyA 16) ∈ mx_tbl := (mx_im mx_t1 59 rfl rfl)
theorem mx_cpn : Cond.native arraycopyName ∈ mx_tbl := (mx_im mx_t3 116 rfl rfl)
theorem mx_cps : Cond.static arraycopyName ∈ mx_tbl := (mx_im mx_t3 115 rfl rfl)
theorem mx_cpi : Cond.initialized "java/lang/System" ∈ mx_tbl := (mx_im mx_t1 24 rfl rfl)
theorem mx_mmins : Cond.static Lib.Math.min.name ∈ mx_tbl := (mx_im mx_t4 108 rfl rfl)
theorem mx_mminc : Cond.code Lib.Math.min.name Lib.Math.min.code 2 (some .int) ∈ mx_tbl := (mx_im mx_t4 109 rfl rfl)
theorem mx_mmaxs : Cond.static Lib.Math.max.name ∈ mx_tbl := (mx_im mx_t1 111 rfl rfl)
theorem mx_mmaxc : Cond.code Lib.Math.max.name Lib.Math.max.code 2 (some .int) ∈ mx_tbl := (mx_im mx_t1 112 rfl rfl)
theorem mx_mini : Cond.initialized "java/lang/Math" ∈ mx_tbl := (mx_im mx_t1 7 rfl rfl)
theorem mx_oii : Cond.instanceMethod Lib.objectInit ∈ mx_tbl := (mx_im mx_t1 32 rfl rfl)
theorem mx_oic : Cond.code Lib.objectInit ⟨#[0xb1]⟩ 1 none ∈ mx_tbl := (mx_im mx_t1 33 rfl rfl)
theorem mx_nofd : ∀ c k, mx_ty c k ≠ .float ∧ mx_ty c k ≠ .double := by
  intro c k
  unfold mx_ty
  split <;> (first | unfold tyX0 | unfold tyX1 | unfold tyX2 | unfold tyX3 | unfold tyX4 | unfold tyX5 | unfold tyX6 | unfold tyX7 | unfold tyX8 | unfold tyX9 | unfold tyX10 | unfold tyX11 | unfold tyX12) <;> split <;> exact ⟨FieldType.noConfusion, FieldType.noConfusion⟩
