/-! THE CONSTRUCTORS of the class's parts over heaps written out (PRINTED by wip/p1/genE.py) -/
section MXM1
def e9 (P : Nat → hcell) (q i : Nat) (m : Nat) : Nat → hcell :=
  let p1 := oN P q 15 m
  let p2 := oRk p1 i 0 (some (128 + q))
  let p3 := oN p2 (q + 1) 14 m
  let p4 := oRk p3 i 1 (some (128 + (q + 1)))
  p4
theorem mkE9 {g : mxH} {a q i m : Nat} {s : Nat} {P : Nat → hcell} : E_X9 (mkH g a s q P) (128 + i) m = mkH g (a + 2) (s + m + m) (q + 2) (e9 P q i m) := by
  simp only [E_X9, mkH_nw, mkH_sR, mkH_sI, hpN_mkH]
  rfl
def e2 (P : Nat → hcell) (q i : Nat) (c : Nat) : Nat → hcell :=
  let p1 := oRk P i 0 (some c)
  let p2 := oN p1 q 18 10
  let p3 := oRk p2 i 1 (some (128 + q))
  p3
theorem mkE2 {g : mxH} {a q i c : Nat} {s : Nat} {P : Nat → hcell} : E_X2 (mkH g a s q P) (128 + i) c = mkH g (a + 1) (s + 10) (q + 1) (e2 P q i c) := by
  simp only [E_X2, mkH_nw, mkH_sR, mkH_sI, hpN_mkH]
  rfl
def e3 (P : Nat → hcell) (q i : Nat) : Nat → hcell :=
  let p1 := oN P q 13 256000
  let p2 := oRk p1 i 0 (some (128 + q))
  let p3 := oN p2 (q + 1) 14 3200
  let p4 := oRk p3 i 1 (some (128 + (q + 1)))
  let p5 := oN p4 (q + 2) 16 3200
  let p6 := oRk p5 i 2 (some (128 + (q + 2)))
  let p7 := oIk p6 i 3 (1)
  p7
theorem mkE3 {g : mxH} {a q i : Nat} {s : Nat} {P : Nat → hcell} : E_X3 (mkH g a s q P) (128 + i) = mkH g (a + 3) (s + 256000 + 3200 + 3200) (q + 3) (e3 P q i) := by
  simp only [E_X3, mkH_nw, mkH_sR, mkH_sI, hpN_mkH]
  rfl
def e0 (P : Nat → hcell) (q i : Nat) : Nat → hcell :=
  let p1 := oN P q 14 302
  let p2 := oRk p1 i 1 (some (128 + q))
  let p3 := oN p2 (q + 1) 14 302
  let p4 := oRk p3 i 2 (some (128 + (q + 1)))
  let p5 := oN p4 (q + 2) 14 12040
  let p6 := oRk p5 i 4 (some (128 + (q + 2)))
  let p7 := oN p6 (q + 3) 14 12040
  let p8 := oRk p7 i 5 (some (128 + (q + 3)))
  let p9 := oIk p8 i 7 (-1)
  p9
theorem mkE0 {g : mxH} {a q i : Nat} {s : Nat} {P : Nat → hcell} : E_X0 (mkH g a s q P) (128 + i) = mkH g (a + 4) (s + 302 + 302 + 12040 + 12040) (q + 4) (e0 P q i) := by
  simp only [E_X0, mkH_nw, mkH_sR, mkH_sI, hpN_mkH]
  rfl
def e8 (P : Nat → hcell) (q i : Nat) (c : Nat) : Nat → hcell :=
  let p1 := oN P q 9 0
  let p2 := e9 p1 (q + 1) q 20
  let p3 := oRk p2 i 0 (some (128 + q))
  let p4 := oN p3 (q + 3) 9 0
  let p5 := e9 p4 (q + 4) (q + 3) 10
  let p6 := oRk p5 i 1 (some (128 + (q + 3)))
  let p7 := oN p6 (q + 6) 15 4
  let p8 := oRk p7 i 2 (some (128 + (q + 6)))
  let p9 := oN p8 (q + 7) 2 0
  let p10 := e2 p9 (q + 8) (q + 7) c
  let p11 := oRk p10 i 3 (some (128 + (q + 7)))
  let p12 := oN p11 (q + 9) 19 8
  let p13 := oRk p12 i 15 (some (128 + (q + 9)))
  let p14 := oN p13 (q + 10) 14 8
  let p15 := oRk p14 i 16 (some (128 + (q + 10)))
  let p16 := oN p15 (q + 11) 14 8
  let p17 := oRk p16 i 17 (some (128 + (q + 11)))
  p17
theorem mkE8 {g : mxH} {a q i c : Nat} {s : Nat} {P : Nat → hcell} : E_X8 (mkH g a s q P) (128 + i) c = mkH g (a + 12) (s + 3 + 20 + 20 + 3 + 10 + 10 + 4 + 2 + 10 + 8 + 8 + 8) (q + 12) (e8 P q i c) := by
  simp only [E_X8, mkH_nw, mkH_sR, mkH_sI, hpN_mkH, mkE2, mkE9]
  rfl
def e10 (P : Nat → hcell) (q i : Nat) (c : Nat) : Nat → hcell :=
  let p1 := oN P q 15 8
  let p2 := oRk p1 i 0 (some (128 + q))
  let p3 := oN p2 (q + 1) 14 8
  let p4 := oRk p3 i 1 (some (128 + (q + 1)))
  let p5 := oN p4 (q + 2) 14 320
  let p6 := oRk p5 i 2 (some (128 + (q + 2)))
  let p7 := oN p6 (q + 3) 14 40
  let p8 := oRk p7 i 4 (some (128 + (q + 3)))
  let p9 := oN p8 (q + 4) 14 100
  let p10 := oRk p9 i 6 (some (128 + (q + 4)))
  let p11 := oN p10 (q + 5) 8 0
  let p12 := e8 p11 (q + 6) (q + 5) c
  let p13 := oRk p12 i 8 (some (128 + (q + 5)))
  let p14 := oN p13 (q + 18) 14 180
  let p15 := oRk p14 i 9 (some (128 + (q + 18)))
  p15
theorem mkE10 {g : mxH} {a q i c : Nat} {s : Nat} {P : Nat → hcell} : E_X10 (mkH g a s q P) (128 + i) c = mkH g (a + 19) (s + 8 + 8 + 320 + 40 + 100 + 18 + 3 + 20 + 20 + 3 + 10 + 10 + 4 + 2 + 10 + 8 + 8 + 8 + 180) (q + 19) (e10 P q i c) := by
  simp only [E_X10, mkH_nw, mkH_sR, mkH_sI, hpN_mkH, mkE8]
  rfl
def e6 (P : Nat → hcell) (q i : Nat) (t : Nat) : Nat → hcell :=
  let p1 := oRk P i 0 (some t)
  let p2 := oIk p1 i 8 (-1)
  p2
theorem mkE6 {g : mxH} {a q i t : Nat} {s : Nat} {P : Nat → hcell} : E_X6 (mkH g a s q P) (128 + i) t = mkH g (a + 0) (s) (q + 0) (e6 P q i t) := by
  simp only [E_X6, mkH_nw, mkH_sR, mkH_sI, hpN_mkH]
  rfl
def e1 (P : Nat → hcell) (q i : Nat) (w c l : Nat) : Nat → hcell :=
  let p1 := oRk P i 0 (some w)
  let p2 := oRk p1 i 1 (some c)
  let p3 := oRk p2 i 2 (some l)
  let p4 := oN p3 q 13 80
  let p5 := oRk p4 i 3 (some (128 + q))
  p5
theorem mkE1 {g : mxH} {a q i w c l : Nat} {s : Nat} {P : Nat → hcell} : E_X1 (mkH g a s q P) (128 + i) w c l = mkH g (a + 1) (s + 80) (q + 1) (e1 P q i w c l) := by
  simp only [E_X1, mkH_nw, mkH_sR, mkH_sI, hpN_mkH]
  rfl
def e4 (P : Nat → hcell) (q i : Nat) (w c l s : Nat) : Nat → hcell :=
  let p1 := oRk P i 0 (some w)
  let p2 := oRk p1 i 1 (some c)
  let p3 := oN p2 q 1 0
  let p4 := e1 p3 (q + 1) q w c l
  let p5 := oRk p4 i 2 (some (128 + q))
  let p6 := oN p5 (q + 2) 14 12000
  let p7 := oRk p6 i 3 (some (128 + (q + 2)))
  let p8 := oN p7 (q + 3) 17 300
  let p9 := oRk p8 i 5 (some (128 + (q + 3)))
  let p10 := oN p9 (q + 4) 2 0
  let p11 := e2 p10 (q + 5) (q + 4) c
  let p12 := oRk p11 i 7 (some (128 + (q + 4)))
  let p13 := oRk p12 i 10 (some s)
  p13
theorem mkE4 {g : mxH} {a q i w c l s : Nat} {z : Nat} {P : Nat → hcell} : E_X4 (mkH g a z q P) (128 + i) w c l s = mkH g (a + 6) (z + 5 + 80 + 12000 + 300 + 2 + 10) (q + 6) (e4 P q i w c l s) := by
  simp only [E_X4, mkH_nw, mkH_sR, mkH_sI, hpN_mkH, mkE1, mkE2]
  rfl
def e7 (P : Nat → hcell) (q i : Nat) : Nat → hcell :=
  let p1 := oN P q 14 2801
  let p2 := oRk p1 i 0 (some (128 + q))
  let p3 := oN p2 (q + 1) 14 2801
  let p4 := oRk p3 i 1 (some (128 + (q + 1)))
  let p5 := oN p4 (q + 2) 14 2801
  let p6 := oRk p5 i 2 (some (128 + (q + 2)))
  let p7 := oN p6 (q + 3) 14 700
  let p8 := oRk p7 i 4 (some (128 + (q + 3)))
  let p9 := oN p8 (q + 4) 14 700
  let p10 := oRk p9 i 5 (some (128 + (q + 4)))
  let p11 := oN p10 (q + 5) 15 700
  let p12 := oRk p11 i 6 (some (128 + (q + 5)))
  let p13 := oN p12 (q + 6) 14 700
  let p14 := oRk p13 i 7 (some (128 + (q + 6)))
  let p15 := oN p14 (q + 7) 14 700
  let p16 := oRk p15 i 8 (some (128 + (q + 7)))
  let p17 := oN p16 (q + 8) 14 700
  let p18 := oRk p17 i 9 (some (128 + (q + 8)))
  let p19 := oN p18 (q + 9) 14 700
  let p20 := oRk p19 i 10 (some (128 + (q + 9)))
  let p21 := oN p20 (q + 10) 14 700
  let p22 := oRk p21 i 12 (some (128 + (q + 10)))
  let p23 := oN p22 (q + 11) 15 700
  let p24 := oRk p23 i 13 (some (128 + (q + 11)))
  let p25 := oN p24 (q + 12) 14 700
  let p26 := oRk p25 i 15 (some (128 + (q + 12)))
  let p27 := oN p26 (q + 13) 15 700
  let p28 := oRk p27 i 16 (some (128 + (q + 13)))
  p28
theorem mkE7 {g : mxH} {a q i : Nat} {s : Nat} {P : Nat → hcell} : E_X7 (mkH g a s q P) (128 + i) = mkH g (a + 14) (s + 2801 + 2801 + 2801 + 700 + 700 + 700 + 700 + 700 + 700 + 700 + 700 + 700 + 700 + 700) (q + 14) (e7 P q i) := by
  simp only [E_X7, mkH_nw, mkH_sR, mkH_sI, hpN_mkH]
  rfl
end MXM1
