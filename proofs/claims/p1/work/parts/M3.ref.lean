/-! THE REFERENCE'S CONSTRUCTOR, its objects and rows, over a heap written out (p1; PRINTED by wip/p1/genM3.py) -/
section MXM3
def r0 : Nat → hcell := oN cF 192 12 0
def r1 : Nat → hcell := oN r0 193 13 700
def r2 : Nat → hcell := oRk r1 192 1 (some (128 + 193))
def r3 : Nat → hcell := oN r2 194 14 5
def r4 : Nat → hcell := oRk r3 192 2 (some (128 + 194))
def r5 : Nat → hcell := oIk r4 192 11 (-1)
def r6 : Nat → hcell := oLk r5 192 13 (nmf 16 (mx_slen.getD 16 0))
def r7 : Nat → hcell := oLk r6 192 14 (nmf 17 (mx_slen.getD 17 0))
def r8 : Nat → hcell := oLk r7 192 15 (nmf 18 (mx_slen.getD 18 0))
def r9 : Nat → hcell := oLk r8 192 16 (nmf 19 (mx_slen.getD 19 0))
def r10 : Nat → hcell := oLk r9 192 17 (nmf 20 (mx_slen.getD 20 0))
def r11 : Nat → hcell := oLk r10 192 18 (nmf 21 (mx_slen.getD 21 0))
def r12 : Nat → hcell := oLk r11 192 19 (nmf 22 (mx_slen.getD 22 0))
def r13 : Nat → hcell := oLk r12 192 20 (nmf 23 (mx_slen.getD 23 0))
def r14 : Nat → hcell := oLk r13 192 21 (nmf 24 (mx_slen.getD 24 0))
def r15 : Nat → hcell := oLk r14 192 22 (nmf 25 (mx_slen.getD 25 0))
def r16 : Nat → hcell := oLk r15 192 23 (nmf 26 (mx_slen.getD 26 0))
def r17 : Nat → hcell := oLk r16 192 24 (nmf 27 (mx_slen.getD 27 0))
def r18 : Nat → hcell := oLk r17 192 25 (nmf 28 (mx_slen.getD 28 0))
def r19 : Nat → hcell := oLk r18 192 26 (nmf 29 (mx_slen.getD 29 0))
def r20 : Nat → hcell := oLk r19 192 27 (nmf 30 (mx_slen.getD 30 0))
def r21 : Nat → hcell := oLk r20 192 28 (nmf 31 (mx_slen.getD 31 0))
def r22 : Nat → hcell := oLk r21 192 29 (nmf 32 (mx_slen.getD 32 0))
def r23 : Nat → hcell := oLk r22 192 30 (nmf 33 (mx_slen.getD 33 0))
def r24 : Nat → hcell := oLk r23 192 31 (nmf 34 (mx_slen.getD 34 0))
def r25 : Nat → hcell := oLk r24 192 32 (nmf 35 (mx_slen.getD 35 0))
def r26 : Nat → hcell := oN r25 195 14 3000
def r27 : Nat → hcell := oRk r26 192 33 (some (128 + 195))
def r28 : Nat → hcell := oN r27 196 14 3000
def r29 : Nat → hcell := oRk r28 192 34 (some (128 + 196))
def r30 : Nat → hcell := oN r29 197 14 3000
def r31 : Nat → hcell := oRk r30 192 35 (some (128 + 197))
def r32 : Nat → hcell := oN r31 198 14 3000
def r33 : Nat → hcell := oRk r32 192 36 (some (128 + 198))
def r34 : Nat → hcell := oN r33 199 14 3000
def r35 : Nat → hcell := oRk r34 192 37 (some (128 + 199))
def r36 : Nat → hcell := oN r35 200 14 3000
def r37 : Nat → hcell := oRk r36 192 38 (some (128 + 200))
def r38 : Nat → hcell := oN r37 201 14 3000
def r39 : Nat → hcell := oRk r38 192 39 (some (128 + 201))
def r40 : Nat → hcell := oN r39 202 15 3000
def r41 : Nat → hcell := oRk r40 192 40 (some (128 + 202))
def r42 : Nat → hcell := oN r41 203 14 3000
def r43 : Nat → hcell := oRk r42 192 41 (some (128 + 203))
def r44 : Nat → hcell := oN r43 204 14 3000
def r45 : Nat → hcell := oRk r44 192 42 (some (128 + 204))
def r46 : Nat → hcell := oN r45 205 14 3000
def r47 : Nat → hcell := oRk r46 192 43 (some (128 + 205))
def r48 : Nat → hcell := oN r47 206 14 3000
def r49 : Nat → hcell := oRk r48 192 44 (some (128 + 206))
def r50 : Nat → hcell := oN r49 207 14 3000
def r51 : Nat → hcell := oRk r50 192 45 (some (128 + 207))
def r52 : Nat → hcell := oN r51 208 14 3000
def r53 : Nat → hcell := oRk r52 192 46 (some (128 + 208))
def r54 : Nat → hcell := oN r53 209 14 3000
def r55 : Nat → hcell := oRk r54 192 47 (some (128 + 209))
def r56 : Nat → hcell := oN r55 210 15 3000
def r57 : Nat → hcell := oRk r56 192 48 (some (128 + 210))
def r58 : Nat → hcell := oN r57 211 13 352000
def r59 : Nat → hcell := oRk r58 192 52 (some (128 + 211))
def r60 : Nat → hcell := oN r59 212 14 4400
def r61 : Nat → hcell := oRk r60 192 53 (some (128 + 212))
def r62 : Nat → hcell := oN r61 213 16 4400
def r63 : Nat → hcell := oRk r62 192 54 (some (128 + 213))
def r64 : Nat → hcell := oN r63 214 14 471
def r65 : Nat → hcell := oRk r64 192 56 (some (128 + 214))
def r66 : Nat → hcell := oN r65 215 15 8
def r67 : Nat → hcell := oRk r66 192 57 (some (128 + 215))
def r68 : Nat → hcell := oN r67 216 14 4000
def r69 : Nat → hcell := oRk r68 192 58 (some (128 + 216))
def r70 : Nat → hcell := oN r69 217 14 4000
def r71 : Nat → hcell := oRk r70 192 59 (some (128 + 217))
def r72 : Nat → hcell := oN r71 218 14 4000
def r73 : Nat → hcell := oRk r72 192 60 (some (128 + 218))
def r74 : Nat → hcell := oN r73 219 14 400
def r75 : Nat → hcell := oRk r74 192 61 (some (128 + 219))
def r76 : Nat → hcell := oN r75 220 14 400
def r77 : Nat → hcell := oRk r76 192 62 (some (128 + 220))
def r78 : Nat → hcell := oN r77 221 16 400
def r79 : Nat → hcell := oRk r78 192 63 (some (128 + 221))
def r80 : Nat → hcell := oN r79 222 14 13000
def r81 : Nat → hcell := oRk r80 192 64 (some (128 + 222))
def r82 : Nat → hcell := oN r81 223 14 13000
def r83 : Nat → hcell := oRk r82 192 65 (some (128 + 223))
def r84 : Nat → hcell := oN r83 224 14 8000
def r85 : Nat → hcell := oRk r84 192 68 (some (128 + 224))
def r86 : Nat → hcell := oN r85 225 16 4000
def r87 : Nat → hcell := oRk r86 192 70 (some (128 + 225))
def r88 : Nat → hcell := oN r87 226 14 83000
def r89 : Nat → hcell := oRk r88 192 71 (some (128 + 226))
def r90 : Nat → hcell := oN r89 227 15 34000
def r91 : Nat → hcell := oRk r90 192 72 (some (128 + 227))
def r92 : Nat → hcell := oN r91 228 14 184
def r93 : Nat → hcell := oRk r92 192 73 (some (128 + 228))
def r94 : Nat → hcell := oN r93 229 13 30000
def r95 : Nat → hcell := oRk r94 192 74 (some (128 + 229))
def r96 : Nat → hcell := oN r95 230 14 400
def r97 : Nat → hcell := oRk r96 192 75 (some (128 + 230))
def r98 : Nat → hcell := oN r97 231 14 400
def r99 : Nat → hcell := oRk r98 192 76 (some (128 + 231))
def r100 : Nat → hcell := oN r99 232 13 80
def r101 : Nat → hcell := oRk r100 192 79 (some (128 + 232))
def r102 : Nat → hcell := oN r101 233 14 4668
def r103 : Nat → hcell := oRk r102 192 80 (some (128 + 233))
def r104 : Nat → hcell := oN r103 234 15 252
def r105 : Nat → hcell := oRk r104 192 81 (some (128 + 234))
def r106 : Nat → hcell := oN r105 235 13 80
def r107 : Nat → hcell := oRk r106 192 83 (some (128 + 235))
variable {g : mxH} {d : Nat}
theorem x12_a (hd : 5 ≤ d) {Q : mxRes → mxH → Prop} (K : mx_SX mY_X12_init d 581 [(0, .ref (128 + 192)), (1, .int (0 : Int32))] [] (mkH g 236 952453 236 r107) Q) : mx_SM mY_X12_init d [.ref (128 + 192)] (mkH g 193 338205 193 r0) Q := by
  refine b_X12_init (128 + 192) ⟨by omega, ?_⟩
  rintro _ _ rfl rfl
  rw [mkH_nw, hpN_mkH]
  refine ⟨by rw [hpK_mkH]; rfl, ?_⟩
  rintro _ rfl
  rw [mkH_sR]
  rintro _ _ rfl rfl
  rw [mkH_nw, hpN_mkH]
  refine ⟨by rw [hpK_mkH]; rfl, ?_⟩
  rintro _ rfl
  rw [mkH_sR]
  rintro _ rfl
  rw [mkH_sI]
  refine mx_xKL2 (k_X12_named (i := 16) (by omega) (by decide)) ?_
  refine ⟨by rw [hpK_mkH]; rfl, ?_⟩
  rintro _ rfl
  rw [mkH_sL]
  refine mx_xKL2 (k_X12_named (i := 17) (by omega) (by decide)) ?_
  refine ⟨by rw [hpK_mkH]; rfl, ?_⟩
  rintro _ rfl
  rw [mkH_sL]
  refine mx_xKL2 (k_X12_named (i := 18) (by omega) (by decide)) ?_
  refine ⟨by rw [hpK_mkH]; rfl, ?_⟩
  rintro _ rfl
  rw [mkH_sL]
  refine mx_xKL2 (k_X12_named (i := 19) (by omega) (by decide)) ?_
  refine ⟨by rw [hpK_mkH]; rfl, ?_⟩
  rintro _ rfl
  rw [mkH_sL]
  refine mx_xKL2 (k_X12_named (i := 20) (by omega) (by decide)) ?_
  refine ⟨by rw [hpK_mkH]; rfl, ?_⟩
  rintro _ rfl
  rw [mkH_sL]
  refine mx_xKL2 (k_X12_named (i := 21) (by omega) (by decide)) ?_
  refine ⟨by rw [hpK_mkH]; rfl, ?_⟩
  rintro _ rfl
  rw [mkH_sL]
  refine mx_xKL2 (k_X12_named (i := 22) (by omega) (by decide)) ?_
  refine ⟨by rw [hpK_mkH]; rfl, ?_⟩
  rintro _ rfl
  rw [mkH_sL]
  refine mx_xKL2 (k_X12_named (i := 23) (by omega) (by decide)) ?_
  refine ⟨by rw [hpK_mkH]; rfl, ?_⟩
  rintro _ rfl
  rw [mkH_sL]
  refine mx_xKL2 (k_X12_named (i := 24) (by omega) (by decide)) ?_
  refine ⟨by rw [hpK_mkH]; rfl, ?_⟩
  rintro _ rfl
  rw [mkH_sL]
  refine mx_xKL2 (k_X12_named (i := 25) (by omega) (by decide)) ?_
  refine ⟨by rw [hpK_mkH]; rfl, ?_⟩
  rintro _ rfl
  rw [mkH_sL]
  refine mx_xKL2 (k_X12_named (i := 26) (by omega) (by decide)) ?_
  refine ⟨by rw [hpK_mkH]; rfl, ?_⟩
  rintro _ rfl
  rw [mkH_sL]
  refine mx_xKL2 (k_X12_named (i := 27) (by omega) (by decide)) ?_
  refine ⟨by rw [hpK_mkH]; rfl, ?_⟩
  rintro _ rfl
  rw [mkH_sL]
  refine mx_xKL2 (k_X12_named (i := 28) (by omega) (by decide)) ?_
  refine ⟨by rw [hpK_mkH]; rfl, ?_⟩
  rintro _ rfl
  rw [mkH_sL]
  refine mx_xKL2 (k_X12_named (i := 29) (by omega) (by decide)) ?_
  refine ⟨by rw [hpK_mkH]; rfl, ?_⟩
  rintro _ rfl
  rw [mkH_sL]
  refine mx_xKL2 (k_X12_named (i := 30) (by omega) (by decide)) ?_
  refine ⟨by rw [hpK_mkH]; rfl, ?_⟩
  rintro _ rfl
  rw [mkH_sL]
  refine mx_xKL2 (k_X12_named (i := 31) (by omega) (by decide)) ?_
  refine ⟨by rw [hpK_mkH]; rfl, ?_⟩
  rintro _ rfl
  rw [mkH_sL]
  refine mx_xKL2 (k_X12_named (i := 32) (by omega) (by decide)) ?_
  refine ⟨by rw [hpK_mkH]; rfl, ?_⟩
  rintro _ rfl
  rw [mkH_sL]
  refine mx_xKL2 (k_X12_named (i := 33) (by omega) (by decide)) ?_
  refine ⟨by rw [hpK_mkH]; rfl, ?_⟩
  rintro _ rfl
  rw [mkH_sL]
  refine mx_xKL2 (k_X12_named (i := 34) (by omega) (by decide)) ?_
  refine ⟨by rw [hpK_mkH]; rfl, ?_⟩
  rintro _ rfl
  rw [mkH_sL]
  refine mx_xKL2 (k_X12_named (i := 35) (by omega) (by decide)) ?_
  refine ⟨by rw [hpK_mkH]; rfl, ?_⟩
  rintro _ rfl
  rw [mkH_sL]
  rintro _ _ rfl rfl
  rw [mkH_nw, hpN_mkH]
  refine ⟨by rw [hpK_mkH]; rfl, ?_⟩
  rintro _ rfl
  rw [mkH_sR]
  rintro _ _ rfl rfl
  rw [mkH_nw, hpN_mkH]
  refine ⟨by rw [hpK_mkH]; rfl, ?_⟩
  rintro _ rfl
  rw [mkH_sR]
  rintro _ _ rfl rfl
  rw [mkH_nw, hpN_mkH]
  refine ⟨by rw [hpK_mkH]; rfl, ?_⟩
  rintro _ rfl
  rw [mkH_sR]
  rintro _ _ rfl rfl
  rw [mkH_nw, hpN_mkH]
  refine ⟨by rw [hpK_mkH]; rfl, ?_⟩
  rintro _ rfl
  rw [mkH_sR]
  rintro _ _ rfl rfl
  rw [mkH_nw, hpN_mkH]
  refine ⟨by rw [hpK_mkH]; rfl, ?_⟩
  rintro _ rfl
  rw [mkH_sR]
  rintro _ _ rfl rfl
  rw [mkH_nw, hpN_mkH]
  refine ⟨by rw [hpK_mkH]; rfl, ?_⟩
  rintro _ rfl
  rw [mkH_sR]
  rintro _ _ rfl rfl
  rw [mkH_nw, hpN_mkH]
  refine ⟨by rw [hpK_mkH]; rfl, ?_⟩
  rintro _ rfl
  rw [mkH_sR]
  rintro _ _ rfl rfl
  rw [mkH_nw, hpN_mkH]
  refine ⟨by rw [hpK_mkH]; rfl, ?_⟩
  rintro _ rfl
  rw [mkH_sR]
  rintro _ _ rfl rfl
  rw [mkH_nw, hpN_mkH]
  refine ⟨by rw [hpK_mkH]; rfl, ?_⟩
  rintro _ rfl
  rw [mkH_sR]
  rintro _ _ rfl rfl
  rw [mkH_nw, hpN_mkH]
  refine ⟨by rw [hpK_mkH]; rfl, ?_⟩
  rintro _ rfl
  rw [mkH_sR]
  rintro _ _ rfl rfl
  rw [mkH_nw, hpN_mkH]
  refine ⟨by rw [hpK_mkH]; rfl, ?_⟩
  rintro _ rfl
  rw [mkH_sR]
  rintro _ _ rfl rfl
  rw [mkH_nw, hpN_mkH]
  refine ⟨by rw [hpK_mkH]; rfl, ?_⟩
  rintro _ rfl
  rw [mkH_sR]
  rintro _ _ rfl rfl
  rw [mkH_nw, hpN_mkH]
  refine ⟨by rw [hpK_mkH]; rfl, ?_⟩
  rintro _ rfl
  rw [mkH_sR]
  rintro _ _ rfl rfl
  rw [mkH_nw, hpN_mkH]
  refine ⟨by rw [hpK_mkH]; rfl, ?_⟩
  rintro _ rfl
  rw [mkH_sR]
  rintro _ _ rfl rfl
  rw [mkH_nw, hpN_mkH]
  refine ⟨by rw [hpK_mkH]; rfl, ?_⟩
  rintro _ rfl
  rw [mkH_sR]
  rintro _ _ rfl rfl
  rw [mkH_nw, hpN_mkH]
  refine ⟨by rw [hpK_mkH]; rfl, ?_⟩
  rintro _ rfl
  rw [mkH_sR]
  rintro _ _ rfl rfl
  rw [mkH_nw, hpN_mkH]
  refine ⟨by rw [hpK_mkH]; rfl, ?_⟩
  rintro _ rfl
  rw [mkH_sR]
  rintro _ _ rfl rfl
  rw [mkH_nw, hpN_mkH]
  refine ⟨by rw [hpK_mkH]; rfl, ?_⟩
  rintro _ rfl
  rw [mkH_sR]
  rintro _ _ rfl rfl
  rw [mkH_nw, hpN_mkH]
  refine ⟨by rw [hpK_mkH]; rfl, ?_⟩
  rintro _ rfl
  rw [mkH_sR]
  rintro _ _ rfl rfl
  rw [mkH_nw, hpN_mkH]
  refine ⟨by rw [hpK_mkH]; rfl, ?_⟩
  rintro _ rfl
  rw [mkH_sR]
  rintro _ _ rfl rfl
  rw [mkH_nw, hpN_mkH]
  refine ⟨by rw [hpK_mkH]; rfl, ?_⟩
  rintro _ rfl
  rw [mkH_sR]
  rintro _ _ rfl rfl
  rw [mkH_nw, hpN_mkH]
  refine ⟨by rw [hpK_mkH]; rfl, ?_⟩
  rintro _ rfl
  rw [mkH_sR]
  rintro _ _ rfl rfl
  rw [mkH_nw, hpN_mkH]
  refine ⟨by rw [hpK_mkH]; rfl, ?_⟩
  rintro _ rfl
  rw [mkH_sR]
  rintro _ _ rfl rfl
  rw [mkH_nw, hpN_mkH]
  refine ⟨by rw [hpK_mkH]; rfl, ?_⟩
  rintro _ rfl
  rw [mkH_sR]
  rintro _ _ rfl rfl
  rw [mkH_nw, hpN_mkH]
  refine ⟨by rw [hpK_mkH]; rfl, ?_⟩
  rintro _ rfl
  rw [mkH_sR]
  rintro _ _ rfl rfl
  rw [mkH_nw, hpN_mkH]
  refine ⟨by rw [hpK_mkH]; rfl, ?_⟩
  rintro _ rfl
  rw [mkH_sR]
  rintro _ _ rfl rfl
  rw [mkH_nw, hpN_mkH]
  refine ⟨by rw [hpK_mkH]; rfl, ?_⟩
  rintro _ rfl
  rw [mkH_sR]
  rintro _ _ rfl rfl
  rw [mkH_nw, hpN_mkH]
  refine ⟨by rw [hpK_mkH]; rfl, ?_⟩
  rintro _ rfl
  rw [mkH_sR]
  rintro _ _ rfl rfl
  rw [mkH_nw, hpN_mkH]
  refine ⟨by rw [hpK_mkH]; rfl, ?_⟩
  rintro _ rfl
  rw [mkH_sR]
  rintro _ _ rfl rfl
  rw [mkH_nw, hpN_mkH]
  refine ⟨by rw [hpK_mkH]; rfl, ?_⟩
  rintro _ rfl
  rw [mkH_sR]
  rintro _ _ rfl rfl
  rw [mkH_nw, hpN_mkH]
  refine ⟨by rw [hpK_mkH]; rfl, ?_⟩
  rintro _ rfl
  rw [mkH_sR]
  rintro _ _ rfl rfl
  rw [mkH_nw, hpN_mkH]
  refine ⟨by rw [hpK_mkH]; rfl, ?_⟩
  rintro _ rfl
  rw [mkH_sR]
  rintro _ _ rfl rfl
  rw [mkH_nw, hpN_mkH]
  refine ⟨by rw [hpK_mkH]; rfl, ?_⟩
  rintro _ rfl
  rw [mkH_sR]
  rintro _ _ rfl rfl
  rw [mkH_nw, hpN_mkH]
  refine ⟨by rw [hpK_mkH]; rfl, ?_⟩
  rintro _ rfl
  rw [mkH_sR]
  rintro _ _ rfl rfl
  rw [mkH_nw, hpN_mkH]
  refine ⟨by rw [hpK_mkH]; rfl, ?_⟩
  rintro _ rfl
  rw [mkH_sR]
  rintro _ _ rfl rfl
  rw [mkH_nw, hpN_mkH]
  refine ⟨by rw [hpK_mkH]; rfl, ?_⟩
  rintro _ rfl
  rw [mkH_sR]
  rintro _ _ rfl rfl
  rw [mkH_nw, hpN_mkH]
  refine ⟨by rw [hpK_mkH]; rfl, ?_⟩
  rintro _ rfl
  rw [mkH_sR]
  rintro _ _ rfl rfl
  rw [mkH_nw, hpN_mkH]
  refine ⟨by rw [hpK_mkH]; rfl, ?_⟩
  rintro _ rfl
  rw [mkH_sR]
  rintro _ _ rfl rfl
  rw [mkH_nw, hpN_mkH]
  refine ⟨by rw [hpK_mkH]; rfl, ?_⟩
  rintro _ rfl
  rw [mkH_sR]
  rintro _ _ rfl rfl
  rw [mkH_nw, hpN_mkH]
  refine ⟨by rw [hpK_mkH]; rfl, ?_⟩
  rintro _ rfl
  rw [mkH_sR]
  rintro _ _ rfl rfl
  rw [mkH_nw, hpN_mkH]
  refine ⟨by rw [hpK_mkH]; rfl, ?_⟩
  rintro _ rfl
  rw [mkH_sR]
  exact K
theorem r_K : ∀ i, i < 236 → 192 ≤ i → (r107 i).1 = srK (128 + i) := by decide +kernel
theorem r_Z : ∀ i, i < 236 → 193 ≤ i → (r107 i).2.1 = srZ (128 + i) := by decide +kernel
theorem r_R : ∀ k, k < 84 → srR k ≠ 0 → (r107 192).2.2.2.2 k = some (srR k) := by decide +kernel
theorem r_L : ∀ k, k < 33 → 13 ≤ k → (r107 192).2.2.2.1 k = srL k := by decide +kernel
end MXM3
