/-! THE CLASS'S CONSTRUCTOR over a heap written out (p1; PRINTED by wip/p1/genM2.py) -/
section MXM2
def pZ : Nat → hcell := fun _ => nC 21 0
def c0 : Nat → hcell := oN pZ 0 11 0
def c1 : Nat → hcell := oRk (oN c0 1 13 700) 0 0 (some (128 + 1))
def c2 : Nat → hcell := oRk (oN c1 2 13 80) 0 2 (some (128 + 2))
def c3 : Nat → hcell := oRk (e3 (oN c2 3 3 0) 4 3) 0 4 (some (128 + 3))
def c4 : Nat → hcell := e0 (oN c3 7 0 0) 8 7
def c5 : Nat → hcell := oRk (e10 (oN c4 12 10 0) 13 12 (128 + 7)) 0 5 (some (128 + 12))
def c6 : Nat → hcell := oRk (oN c5 32 20 6) 0 6 (some (128 + 32))
def cw0 : Nat → hcell := oRk (e10 (oN c6 33 10 0) 34 33 (128 + 7)) 32 0 (some (128 + 33))
def cw1 : Nat → hcell := oRk (e10 (oN cw0 53 10 0) 54 53 (128 + 7)) 32 1 (some (128 + 53))
def cw2 : Nat → hcell := oRk (e10 (oN cw1 73 10 0) 74 73 (128 + 7)) 32 2 (some (128 + 73))
def cw3 : Nat → hcell := oRk (e10 (oN cw2 93 10 0) 94 93 (128 + 7)) 32 3 (some (128 + 93))
def cw4 : Nat → hcell := oRk (e10 (oN cw3 113 10 0) 114 113 (128 + 7)) 32 4 (some (128 + 113))
def cw5 : Nat → hcell := oRk (e10 (oN cw4 133 10 0) 134 133 (128 + 7)) 32 5 (some (128 + 133))
def c8 : Nat → hcell := oRk (e6 (oN cw5 153 6 0) 154 153 (128 + 1)) 0 8 (some (128 + 153))
def c9 : Nat → hcell := oRk (e4 (oN c8 154 4 0) 155 154 (128 + 12) (128 + 7) (128 + 3) (128 + 18)) 0 9 (some (128 + 154))
def c10 : Nat → hcell := oRk (e7 (oN c9 161 7 0) 162 161) 0 10 (some (128 + 161))
def c11 : Nat → hcell := oRk (e7 (oN c10 176 7 0) 177 176) 0 11 (some (128 + 176))
def c12 : Nat → hcell := oIk (oIk (oIk (oIk c11 162 0 21) 163 0 0) 164 0 0) 161 3 (nI 1)
def c13 : Nat → hcell := oLk (oLk (oLk (oLk (oIk (oIk c12 19 2 0) 22 2 0) 25 0 0) 25 1 0) 25 2 0) 25 3 0
def c14 : Nat → hcell := oIk (oIk (oIk (oIk (oIk (oRk (oN c13 191 5 0) 191 5 none) 191 0 1) 191 1 (-1)) 191 2 (-1)) 191 3 0) 191 4 0
def c15 : Nat → hcell := oRk (oIk (oRk (oIk (oRk (oIk c14 191 4 1) 27 0 (some (128 + 191))) 191 4 2) 27 1 (some (128 + 191))) 191 4 3) 27 2 (some (128 + 191))
def c16 : Nat → hcell := oIk (oRk (oIk (oIk (oIk (oIk (oIk (oIk c15 18 4 0) 18 6 0) 18 9 0) 18 8 0) 18 10 0) 18 12 0) 18 13 none) 18 14 0
def cF : Nat → hcell := oIk (oIk (oIk (oIk c16 12 10 0) 12 11 0) 12 12 0) 12 13 0

variable {g : mxH} {d : Nat}
set_option maxRecDepth 100000 in
theorem x11_a (hd : 5 ≤ d) {Q : mxRes → mxH → Prop} (K : mx_SX mY_X11_init d 63 [(0, .ref (128 + 0)), (1, .ref (128 + 7)), (2, .int (0 : Int32))] [] (mkH g 33 288689 33 c6) Q) : mx_SM mY_X11_init d [.ref (128 + 0)] (mkH g 1 12 1 c0) Q := by
  refine b_X11_init (128 + 0) ⟨by omega, ?_⟩
  rintro _ _ rfl rfl
  rw [mkH_nw, hpN_mkH]
  refine ⟨by rw [hpK_mkH]; decide +kernel, ?_⟩
  rintro _ rfl
  rw [mkH_sR]
  rintro _ _ rfl rfl
  rw [mkH_nw, hpN_mkH]
  refine ⟨by rw [hpK_mkH]; decide +kernel, ?_⟩
  rintro _ rfl
  rw [mkH_sR]
  rintro _ _ rfl rfl
  rw [mkH_nw, hpN_mkH]
  refine mx_xKV (k_X3 (by omega) (mkKd (by decide) (by decide +kernel))) ?_
  rw [mkE3]
  refine ⟨by rw [hpK_mkH]; decide +kernel, ?_⟩
  rintro _ rfl
  rw [mkH_sR]
  rintro _ _ rfl rfl
  rw [mkH_nw, hpN_mkH]
  refine mx_xKV (k_X0 (by omega) (mkKd (by decide) (by decide +kernel))) ?_
  rw [mkE0]
  rintro _ _ rfl rfl
  rw [mkH_nw, hpN_mkH]
  refine mx_xKV (k_X10 (by omega) (mkKd (by decide) (by decide +kernel))) ?_
  rw [mkE10]
  refine ⟨by rw [hpK_mkH]; decide +kernel, ?_⟩
  rintro _ rfl
  rw [mkH_sR]
  rintro _ _ rfl rfl
  rw [mkH_nw, hpN_mkH]
  refine ⟨by rw [hpK_mkH]; decide +kernel, ?_⟩
  rintro _ rfl
  rw [mkH_sR]
  exact K
set_option maxRecDepth 100000 in
theorem x11_w0 (hd : 5 ≤ d) {Q : mxRes → mxH → Prop} (K : mx_SX mY_X11_init d 63 [(0, .ref (128 + 0)), (1, .ref (128 + 7)), (2, .int (1 : Int32))] [] (mkH g 53 289483 53 cw0) Q) : mx_SX mY_X11_init d 63 [(0, .ref (128 + 0)), (1, .ref (128 + 7)), (2, .int (0 : Int32))] [] (mkH g 33 288689 33 c6) Q := by
  refine b_X11_init_63 (128 + 0) (128 + 7) 0 ⟨fun c => absurd c (by decide), fun _ => ⟨by rw [hpK_mkH]; decide +kernel, 128 + 32, by rw [hpR_mkH]; decide +kernel, ?_⟩⟩
  rintro _ _ rfl rfl
  rw [mkH_nw, hpN_mkH]
  refine ⟨by omega, mx_xKV (k_X10 (by omega) (mkKd (by decide) (by decide +kernel))) ?_⟩
  rw [mkE10]
  refine ⟨by rw [hpK_mkH]; decide +kernel, by rw [hpZ_mkH]; exact vp_in_nI (n := 0) (by decide) (by decide), by rw [hpK_mkH]; decide +kernel, ?_⟩
  rintro _ rfl
  rw [mkH_sR, show (0 : Int32).toNatClampNeg = 0 from rfl, show ((0 : Int32) + 1) = 1 from rfl]
  exact K
set_option maxRecDepth 100000 in
theorem x11_w1 (hd : 5 ≤ d) {Q : mxRes → mxH → Prop} (K : mx_SX mY_X11_init d 63 [(0, .ref (128 + 0)), (1, .ref (128 + 7)), (2, .int (2 : Int32))] [] (mkH g 73 290277 73 cw1) Q) : mx_SX mY_X11_init d 63 [(0, .ref (128 + 0)), (1, .ref (128 + 7)), (2, .int (1 : Int32))] [] (mkH g 53 289483 53 cw0) Q := by
  refine b_X11_init_63 (128 + 0) (128 + 7) 1 ⟨fun c => absurd c (by decide), fun _ => ⟨by rw [hpK_mkH]; decide +kernel, 128 + 32, by rw [hpR_mkH]; decide +kernel, ?_⟩⟩
  rintro _ _ rfl rfl
  rw [mkH_nw, hpN_mkH]
  refine ⟨by omega, mx_xKV (k_X10 (by omega) (mkKd (by decide) (by decide +kernel))) ?_⟩
  rw [mkE10]
  refine ⟨by rw [hpK_mkH]; decide +kernel, by rw [hpZ_mkH]; exact vp_in_nI (n := 1) (by decide) (by decide), by rw [hpK_mkH]; decide +kernel, ?_⟩
  rintro _ rfl
  rw [mkH_sR, show (1 : Int32).toNatClampNeg = 1 from rfl, show ((1 : Int32) + 1) = 2 from rfl]
  exact K
set_option maxRecDepth 100000 in
theorem x11_w2 (hd : 5 ≤ d) {Q : mxRes → mxH → Prop} (K : mx_SX mY_X11_init d 63 [(0, .ref (128 + 0)), (1, .ref (128 + 7)), (2, .int (3 : Int32))] [] (mkH g 93 291071 93 cw2) Q) : mx_SX mY_X11_init d 63 [(0, .ref (128 + 0)), (1, .ref (128 + 7)), (2, .int (2 : Int32))] [] (mkH g 73 290277 73 cw1) Q := by
  refine b_X11_init_63 (128 + 0) (128 + 7) 2 ⟨fun c => absurd c (by decide), fun _ => ⟨by rw [hpK_mkH]; decide +kernel, 128 + 32, by rw [hpR_mkH]; decide +kernel, ?_⟩⟩
  rintro _ _ rfl rfl
  rw [mkH_nw, hpN_mkH]
  refine ⟨by omega, mx_xKV (k_X10 (by omega) (mkKd (by decide) (by decide +kernel))) ?_⟩
  rw [mkE10]
  refine ⟨by rw [hpK_mkH]; decide +kernel, by rw [hpZ_mkH]; exact vp_in_nI (n := 2) (by decide) (by decide), by rw [hpK_mkH]; decide +kernel, ?_⟩
  rintro _ rfl
  rw [mkH_sR, show (2 : Int32).toNatClampNeg = 2 from rfl, show ((2 : Int32) + 1) = 3 from rfl]
  exact K
set_option maxRecDepth 100000 in
theorem x11_w3 (hd : 5 ≤ d) {Q : mxRes → mxH → Prop} (K : mx_SX mY_X11_init d 63 [(0, .ref (128 + 0)), (1, .ref (128 + 7)), (2, .int (4 : Int32))] [] (mkH g 113 291865 113 cw3) Q) : mx_SX mY_X11_init d 63 [(0, .ref (128 + 0)), (1, .ref (128 + 7)), (2, .int (3 : Int32))] [] (mkH g 93 291071 93 cw2) Q := by
  refine b_X11_init_63 (128 + 0) (128 + 7) 3 ⟨fun c => absurd c (by decide), fun _ => ⟨by rw [hpK_mkH]; decide +kernel, 128 + 32, by rw [hpR_mkH]; decide +kernel, ?_⟩⟩
  rintro _ _ rfl rfl
  rw [mkH_nw, hpN_mkH]
  refine ⟨by omega, mx_xKV (k_X10 (by omega) (mkKd (by decide) (by decide +kernel))) ?_⟩
  rw [mkE10]
  refine ⟨by rw [hpK_mkH]; decide +kernel, by rw [hpZ_mkH]; exact vp_in_nI (n := 3) (by decide) (by decide), by rw [hpK_mkH]; decide +kernel, ?_⟩
  rintro _ rfl
  rw [mkH_sR, show (3 : Int32).toNatClampNeg = 3 from rfl, show ((3 : Int32) + 1) = 4 from rfl]
  exact K
set_option maxRecDepth 100000 in
theorem x11_w4 (hd : 5 ≤ d) {Q : mxRes → mxH → Prop} (K : mx_SX mY_X11_init d 63 [(0, .ref (128 + 0)), (1, .ref (128 + 7)), (2, .int (5 : Int32))] [] (mkH g 133 292659 133 cw4) Q) : mx_SX mY_X11_init d 63 [(0, .ref (128 + 0)), (1, .ref (128 + 7)), (2, .int (4 : Int32))] [] (mkH g 113 291865 113 cw3) Q := by
  refine b_X11_init_63 (128 + 0) (128 + 7) 4 ⟨fun c => absurd c (by decide), fun _ => ⟨by rw [hpK_mkH]; decide +kernel, 128 + 32, by rw [hpR_mkH]; decide +kernel, ?_⟩⟩
  rintro _ _ rfl rfl
  rw [mkH_nw, hpN_mkH]
  refine ⟨by omega, mx_xKV (k_X10 (by omega) (mkKd (by decide) (by decide +kernel))) ?_⟩
  rw [mkE10]
  refine ⟨by rw [hpK_mkH]; decide +kernel, by rw [hpZ_mkH]; exact vp_in_nI (n := 4) (by decide) (by decide), by rw [hpK_mkH]; decide +kernel, ?_⟩
  rintro _ rfl
  rw [mkH_sR, show (4 : Int32).toNatClampNeg = 4 from rfl, show ((4 : Int32) + 1) = 5 from rfl]
  exact K
set_option maxRecDepth 100000 in
theorem x11_w5 (hd : 5 ≤ d) {Q : mxRes → mxH → Prop} (K : mx_SX mY_X11_init d 63 [(0, .ref (128 + 0)), (1, .ref (128 + 7)), (2, .int (6 : Int32))] [] (mkH g 153 293453 153 cw5) Q) : mx_SX mY_X11_init d 63 [(0, .ref (128 + 0)), (1, .ref (128 + 7)), (2, .int (5 : Int32))] [] (mkH g 133 292659 133 cw4) Q := by
  refine b_X11_init_63 (128 + 0) (128 + 7) 5 ⟨fun c => absurd c (by decide), fun _ => ⟨by rw [hpK_mkH]; decide +kernel, 128 + 32, by rw [hpR_mkH]; decide +kernel, ?_⟩⟩
  rintro _ _ rfl rfl
  rw [mkH_nw, hpN_mkH]
  refine ⟨by omega, mx_xKV (k_X10 (by omega) (mkKd (by decide) (by decide +kernel))) ?_⟩
  rw [mkE10]
  refine ⟨by rw [hpK_mkH]; decide +kernel, by rw [hpZ_mkH]; exact vp_in_nI (n := 5) (by decide) (by decide), by rw [hpK_mkH]; decide +kernel, ?_⟩
  rintro _ rfl
  rw [mkH_sR, show (5 : Int32).toNatClampNeg = 5 from rfl, show ((5 : Int32) + 1) = 6 from rfl]
  exact K
set_option maxRecDepth 100000 in
theorem x11_b (hd : 5 ≤ d) {Q : mxRes → mxH → Prop} (K : mx_SM mY_X10_beginAnew (d - 1) [.ref (128 + 12)] (mkH g 191 338114 191 c12) (mx_KV (fun h14 => Q (.inl none) h14) (mx_XX mY_X11_init Q))) : mx_SX mY_X11_init d 63 [(0, .ref (128 + 0)), (1, .ref (128 + 7)), (2, .int (6 : Int32))] [] (mkH g 153 293453 153 cw5) Q := by
  refine b_X11_init_63 (128 + 0) (128 + 7) 6 ⟨fun _ => ?_, fun c => absurd (by decide) c⟩
  rintro _ _ rfl rfl
  rw [mkH_nw, hpN_mkH]
  refine ⟨by rw [hpK_mkH]; decide +kernel, 128 + 1, by rw [hpR_mkH]; decide +kernel, by omega, mx_xKV (k_X6 (by omega) (mkKd (by decide) (by decide +kernel))) ?_⟩
  rw [mkE6]
  refine ⟨by rw [hpK_mkH]; decide +kernel, ?_⟩
  rintro _ rfl
  rw [mkH_sR]
  rintro _ _ rfl rfl
  rw [mkH_nw, hpN_mkH]
  refine ⟨by rw [hpK_mkH]; decide +kernel, 128 + 12, by rw [hpR_mkH]; decide +kernel, 128 + 3, by rw [hpR_mkH]; decide +kernel, mx_xKV (k_X4 (s := 128 + 18) (by omega) (mkKd (by decide) (by decide +kernel)) (mkKd (by decide) (by decide +kernel)) (mkRr (by decide) (by decide +kernel)) (by decide)) ?_⟩
  rw [mkE4]
  refine ⟨by rw [hpK_mkH]; decide +kernel, ?_⟩
  rintro _ rfl
  rw [mkH_sR]
  rintro _ _ rfl rfl
  rw [mkH_nw, hpN_mkH]
  refine mx_xKV (k_X7 (by omega) (mkKd (by decide) (by decide +kernel))) ?_
  rw [mkE7]
  refine ⟨by rw [hpK_mkH]; decide +kernel, ?_⟩
  rintro _ rfl
  rw [mkH_sR]
  rintro _ _ rfl rfl
  rw [mkH_nw, hpN_mkH]
  refine mx_xKV (k_X7 (by omega) (mkKd (by decide) (by decide +kernel))) ?_
  rw [mkE7]
  refine ⟨by rw [hpK_mkH]; decide +kernel, ?_⟩
  rintro _ rfl
  rw [mkH_sR]
  refine ⟨128 + 161, by rw [hpR_mkH]; decide +kernel, by rw [hpK_mkH]; decide +kernel, mx_xKI2 (k_X7_emit (n := 0) (st := 128 + 162) (op := 128 + 163) (tg := 128 + 164) (by omega) ⟨by rw [hpK_mkH]; decide +kernel, by rw [hpR_mkH]; decide +kernel, by rw [hpR_mkH]; decide +kernel, by rw [hpR_mkH]; decide +kernel, by rw [hpK_mkH]; decide +kernel, by rw [hpK_mkH]; decide +kernel, by rw [hpK_mkH]; decide +kernel, by rw [hpZ_mkH]; decide +kernel, by rw [hpZ_mkH]; decide +kernel, by rw [hpZ_mkH]; decide +kernel, by rw [hpI_mkH]; decide +kernel⟩ (by decide)) ?_⟩
  unfold pg_emit
  rw [mkH_sI, mkH_sI, mkH_sI, mkH_sI]
  exact ⟨by rw [hpK_mkH]; decide +kernel, 128 + 12, by rw [hpR_mkH]; decide +kernel, by rw [hpK_mkH]; decide +kernel, K⟩
theorem hsR_id {h : mxH} {a k : Nat} {v : Option Nat} (e : hpR h a k = v) : hsR h a k v = h := by
  have : (fun b => if b = a then fup (hpR h a) k v else hpR h b) = hpR h := by
    funext b j
    by_cases c : b = a
    · rw [if_pos c, c]
      unfold fup
      by_cases c2 : j = k
      · rw [if_pos c2, c2, e]
      · rw [if_neg c2]
    · rw [if_neg c]
  show (h.1, h.2.1, h.2.2.1, h.2.2.2.1, h.2.2.2.2.1, h.2.2.2.2.2.1, h.2.2.2.2.2.2.1, (fun b => if b = a then fup (hpR h a) k v else hpR h b)) = h
  rw [this]
  rfl
theorem hd_put_nn {h : mxH} {ch sl i : Nat} (e : hpR h sl i = none) : hd_put h ch sl i none = h := by
  show hd_put25 h ch sl i none = h
  unfold hd_put25
  rw [e]
  exact hsR_id e
theorem hd_put_sn {h : mxH} {ch sl i b : Nat} (e : hpR h sl i = none) : hd_put h ch sl i (some b) = hsR (hsI h b 4 (hpI h b 4 + 1)) sl i (some b) := by
  have e2 : hpR (hsI h b 4 (hpI h b 4 + 1)) sl i = none := e
  show hd_put25 (hsI h b 4 (hpI h b 4 + 1)) ch sl i (some b) = _
  unfold hd_put25
  rw [e2]
theorem hd_close_n {ch sl : Nat} {h : mxH} (e : ∀ j, hpR h sl j = none) : ∀ m i, hd_close ch sl m i h = h
  | 0, _ => rfl
  | m + 1, i => by
    show hd_close ch sl m (i + 1) (hd_put h ch sl i none) = h
    rw [hd_put_nn (e i)]
    exact hd_close_n e m (i + 1)
theorem mkNo5 {c s n : Nat} {P : Nat → hcell} (hg : ∀ a, a < 128 → hpK g a = 21) (hn : ∀ i, i < n → (P i).1 ≠ 5) (b : Nat) (q : mx_kd (mkH g c s n P) b 5) : False := by
  obtain ⟨q1, q2⟩ := q
  rw [hpN_mkH] at q1
  by_cases c : b < 128
  · rw [hpK_mkLo c, hg b c] at q2
    exact absurd q2 (by decide)
  · obtain ⟨i, rfl⟩ : ∃ i, b = 128 + i := ⟨b - 128, by omega⟩
    rw [hpK_mkH] at q2
    exact hn i (by omega) q2
theorem mkPut {c s n ch i j b : Nat} {P : Nat → hcell} (e : (P i).2.2.2.2 j = none) : hd_put (mkH g c s n P) ch (128 + i) j (some (128 + b)) = mkH g c s n (oRk (oIk P b 4 ((P b).2.2.1 4 + 1)) i j (some (128 + b))) := by
  rw [hd_put_sn (by rw [hpR_mkH]; exact e), hpI_mkH, mkH_sI, mkH_sR]
theorem c13_no5 : ∀ i, i < 191 → (c13 i).1 ≠ 5 := by decide +kernel
set_option maxRecDepth 100000 in
theorem x_beg (hd : 6 ≤ d) (hg : ∀ a, a < 128 → hpK g a = 21) : mx_SM mY_X10_beginAnew d [.ref (128 + 12)] (mkH g 191 338114 191 c12) (mx_xct (.inl none) (mkH g 192 338120 192 cF)) := by
  refine b_X10_beginAnew (128 + 12) ⟨by rw [hpK_mkH]; decide +kernel, 128 + 18, by rw [hpR_mkH]; decide +kernel, by omega, by rw [hpK_mkH]; decide +kernel, ?_⟩
  have KK : mx_SM mY_X8_beginAnew (d - 1) [.ref (128 + 18)] (mkH g 191 338114 191 c12) (mx_xct (.inl none) (mkH g 192 338120 192 c16)) := by
    refine b_X8_beginAnew (128 + 18) ⟨by rw [hpK_mkH]; decide +kernel, 128 + 19, by rw [hpR_mkH]; decide +kernel, by rw [hpK_mkH]; decide +kernel, ?_⟩
    rintro _ rfl
    rw [mkH_sI]
    refine ⟨128 + 22, by rw [hpR_mkH]; decide +kernel, by rw [hpK_mkH]; decide +kernel, ?_⟩
    rintro _ rfl
    rw [mkH_sI]
    refine b_X8_beginAnew_18 (128 + 18) 0 ⟨fun c => absurd c (by decide), fun _ => ⟨by rw [hpK_mkH]; decide +kernel, 128 + 25, by rw [hpR_mkH]; decide +kernel, by rw [hpK_mkH]; decide +kernel, by rw [hpZ_mkH]; exact vp_in_nI (n := 0) (by decide) (by decide), ?_⟩⟩
    rintro _ rfl
    rw [mkH_sL, show (0 : Int32).toNatClampNeg = 0 from rfl, show ((0 : Int32) + 1) = 1 from rfl]
    refine b_X8_beginAnew_18 (128 + 18) 1 ⟨fun c => absurd c (by decide), fun _ => ⟨by rw [hpK_mkH]; decide +kernel, 128 + 25, by rw [hpR_mkH]; decide +kernel, by rw [hpK_mkH]; decide +kernel, by rw [hpZ_mkH]; exact vp_in_nI (n := 1) (by decide) (by decide), ?_⟩⟩
    rintro _ rfl
    rw [mkH_sL, show (1 : Int32).toNatClampNeg = 1 from rfl, show ((1 : Int32) + 1) = 2 from rfl]
    refine b_X8_beginAnew_18 (128 + 18) 2 ⟨fun c => absurd c (by decide), fun _ => ⟨by rw [hpK_mkH]; decide +kernel, 128 + 25, by rw [hpR_mkH]; decide +kernel, by rw [hpK_mkH]; decide +kernel, by rw [hpZ_mkH]; exact vp_in_nI (n := 2) (by decide) (by decide), ?_⟩⟩
    rintro _ rfl
    rw [mkH_sL, show (2 : Int32).toNatClampNeg = 2 from rfl, show ((2 : Int32) + 1) = 3 from rfl]
    refine b_X8_beginAnew_18 (128 + 18) 3 ⟨fun c => absurd c (by decide), fun _ => ⟨by rw [hpK_mkH]; decide +kernel, 128 + 25, by rw [hpR_mkH]; decide +kernel, by rw [hpK_mkH]; decide +kernel, by rw [hpZ_mkH]; exact vp_in_nI (n := 3) (by decide) (by decide), ?_⟩⟩
    rintro _ rfl
    rw [mkH_sL, show (3 : Int32).toNatClampNeg = 3 from rfl, show ((3 : Int32) + 1) = 4 from rfl]
    show mx_SX mY_X8_beginAnew (d - 1) 18 [(0, .ref (128 + 18)), (1, .int (nI 4))] [] (mkH g 191 338114 191 c13) _
    have row : ∀ j, hpR (mkH g 191 338114 191 c13) (128 + 27) j = none := fun j => by rw [hpR_mkH]; rfl
    have fr0 : hpR (mkH g 191 338114 191 c13) (128 + 7) 0 = none := by rw [hpR_mkH]; decide +kernel
    have e1 : hd_begin (mkH g 191 338114 191 c13) (128 + 7) (128 + 27) = mkH g 192 338120 192 c15 := by
      unfold hd_begin
      rw [hd_close_n row]
      unfold hd_opened hd_open
      dsimp only
      rw [fr0]
      dsimp only
      unfold hd_fill
      rw [mkH_nw, hpN_mkH, mkH_sR, mkH_sI, mkH_sI, mkH_sI, mkH_sI, mkH_sI]
      rw [mkPut (by decide +kernel)]
      rw [mkPut (by decide +kernel)]
      rw [mkPut (by decide +kernel)]
      rfl
    have := k_X8_beginAnew_end (d := d - 1) (h := mkH g 191 338114 191 c13) (x := 128 + 18) (tv := 128 + 19) (tf := 128 + 22) (ac := 128 + 25) (hn := 128 + 26) (ch := 128 + 7) (sl := 128 + 27) (by omega)
      ⟨by rw [hpK_mkH]; decide +kernel, by rw [hpR_mkH]; decide +kernel, by rw [hpR_mkH]; decide +kernel, by rw [hpR_mkH]; decide +kernel, by rw [hpR_mkH]; decide +kernel, by rw [hpK_mkH]; decide +kernel, by rw [hpK_mkH]; decide +kernel, by rw [hpK_mkH]; decide +kernel, by rw [hpZ_mkH]; decide +kernel, by rw [hpK_mkH]; decide +kernel⟩
      (by rw [hpN_mkH]; decide)
      ⟨⟨by rw [hpK_mkH]; decide +kernel, by rw [hpR_mkH]; decide +kernel, by rw [hpR_mkH]; decide +kernel, by rw [hpK_mkH]; decide +kernel, by rw [hpK_mkH]; decide +kernel, by rw [hpZ_mkH]; decide +kernel⟩, fun j _ b hb => (by rw [row j] at hb; cases hb), fun o ho => (by rw [fr0] at ho; cases ho)⟩
      (fun b o hb _ => (mkNo5 hg c13_no5 b hb).elim) (by rw [hpN_mkH]; decide) (by rw [hpN_mkH]; decide) (by rw [hpN_mkH]; decide)
    unfold sh_begin sh_prep at this
    rw [e1, mkH_sI, mkH_sI, mkH_sI, mkH_sI, mkH_sI, mkH_sI, mkH_sR, mkH_sI] at this
    exact this
  refine mx_xKV KK ⟨by rw [hpK_mkH]; decide +kernel, mx_xKV (k_X10_forgetRun (by rw [hpK_mkH]; decide +kernel)) ?_⟩
  unfold wo_forget
  rw [mkH_sI, mkH_sI, mkH_sI, mkH_sI]
  exact ⟨rfl, rfl⟩
set_option maxRecDepth 100000 in
theorem k_X11_init (hd : 7 ≤ d) (hg : ∀ a, a < 128 → hpK g a = 21) : mx_SM mY_X11_init d [.ref (128 + 0)] (mkH g 1 12 1 c0) (mx_xct (.inl none) (mkH g 192 338120 192 cF)) :=
  x11_a (by omega) (x11_w0 (by omega) (x11_w1 (by omega) (x11_w2 (by omega) (x11_w3 (by omega) (x11_w4 (by omega) (x11_w5 (by omega) (x11_b (by omega) (mx_xKV (x_beg (by omega) hg) ⟨rfl, rfl⟩))))))))
end MXM2
