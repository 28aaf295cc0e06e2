/-! CONSTRUCTORS of the class: what each makes of the heap, exactly (PRINTED by wip/whole/genctor.py) -/
def mx_kd (h : mxH) (a k : Nat) : Prop := a < hpN h ∧ hpK h a = k
theorem mx_kdk {h : mxH} {a k : Nat} (q : mx_kd h a k) : hpK h a = k := q.2
theorem mx_kd_R {h : mxH} {a k b j : Nat} {v : Option Nat} (q : mx_kd h a k) : mx_kd (hsR h b j v) a k := q
theorem mx_kd_I {h : mxH} {a k b j : Nat} {v : Int32} (q : mx_kd h a k) : mx_kd (hsI h b j v) a k := q
theorem mx_kd_nw {h : mxH} {a k kd l z : Nat} (q : mx_kd h a k) : mx_kd (hnw h kd l z) a k := ⟨Nat.lt_succ_of_lt q.1, by rw [hpK_nw, if_neg (Nat.ne_of_lt q.1)]; exact q.2⟩
theorem mx_kd_new {h : mxH} {kd l z : Nat} : mx_kd (hnw h kd l z) (hpN h) kd := ⟨Nat.lt_succ_self _, by rw [hpK_nw, if_pos rfl]⟩
theorem mx_kd_ne {h : mxH} {a k : Nat} (q : mx_kd h a k) : a ≠ hpN h := Nat.ne_of_lt q.1
def mx_rr (h : mxH) (w k s : Nat) : Prop := w < hpN h ∧ hpR h w k = some s
theorem mx_rrk {h : mxH} {w k s : Nat} (q : mx_rr h w k s) : hpR h w k = some s := q.2
theorem mx_rr_nw {h : mxH} {w k s kd l z : Nat} (q : mx_rr h w k s) : mx_rr (hnw h kd l z) w k s := ⟨Nat.lt_succ_of_lt q.1, by rw [hpR_nw, if_neg (Nat.ne_of_lt q.1)]; exact q.2⟩
theorem mx_rr_I {h : mxH} {w k s b j : Nat} {v : Int32} (q : mx_rr h w k s) : mx_rr (hsI h b j v) w k s := q
theorem mx_rr_R {h : mxH} {w k s b j : Nat} {v : Option Nat} (hb : w ≠ b) (q : mx_rr h w k s) : mx_rr (hsR h b j v) w k s := ⟨q.1, by show hpR (hrR h b _) w k = some s; rw [hpR_rR, if_neg hb]; exact q.2⟩
theorem mx_rr_new {h : mxH} {w k s : Nat} (q : mx_rr h w k s) : w ≠ hpN h := Nat.ne_of_lt q.1
theorem mx_xKV {Y : mxY} {d : Nat} {As : List Value} {h h' : mxH} {P : mxH → Prop} {X : String → mxH → Prop} (k : mx_SM Y d As h (mx_xct (.inl none) h')) (hp : P h') : mx_SM Y d As h (mx_KV P X) :=
  k.mono fun r1 h1 q => Or.inl ⟨q.1, by rw [q.2]; exact hp⟩
theorem mx_max0 {n : Nat} (hn : n < 2 ^ 31) : ¬ (if nI n < (0 : Int32) then (0 : Int32) else nI n) < 0 := by rw [if_neg (nI_pos hn)]; exact nI_pos hn
theorem mx_maxc {n : Nat} (hn : n < 2 ^ 31) : (if nI n < (0 : Int32) then (0 : Int32) else nI n).toNatClampNeg = n := by rw [if_neg (nI_pos hn)]; exact nI_clamp hn
def E_X9 (h : mxH) (a : Nat) (n : Nat) : mxH :=
  let b1 := hpN h
  let h1 := hnw h 15 n n
  let h2 := hsR h1 a 0 (some b1)
  let b2 := hpN h2
  let h3 := hnw h2 14 n n
  let h4 := hsR h3 a 1 (some b2)
  h4
theorem k_X9 {d : Nat} {h : mxH} {a n : Nat} (hd : 1 ≤ d) (hk : mx_kd h a 9) {x1 : Int32} (hx : x1 = nI n) (hn : n < 2 ^ 24) : mx_SM mY_X9_init d [.ref a, .int x1] h (mx_xct (.inl none) (E_X9 h a n)) := by
  subst hx
  have hn : n < 2 ^ 31 := by omega
  refine b_X9_init a (nI n) ?_
  refine ⟨by omega, ?_⟩
  refine ⟨n, mx_max0 hn, mx_maxc hn, by omega, ?_⟩
  rintro _ _ rfl rfl
  refine ⟨mx_kdk (by repeat (first | with_reducible exact hk | with_reducible exact mx_kd_new | with_reducible apply mx_kd_R | with_reducible apply mx_kd_I | with_reducible apply mx_kd_nw)), ?_⟩
  rintro _ rfl
  refine ⟨n, mx_max0 hn, mx_maxc hn, by omega, ?_⟩
  rintro _ _ rfl rfl
  refine ⟨mx_kdk (by repeat (first | with_reducible exact hk | with_reducible exact mx_kd_new | with_reducible apply mx_kd_R | with_reducible apply mx_kd_I | with_reducible apply mx_kd_nw)), ?_⟩
  rintro _ rfl
  exact ⟨rfl, rfl⟩
theorem mx_kd_X9 {h : mxH} {b k a n : Nat} (q : mx_kd h b k) : mx_kd (E_X9 h a n) b k := by
  unfold E_X9
  dsimp only
  exact (by repeat (first | with_reducible exact q | with_reducible exact mx_kd_new | with_reducible apply mx_kd_R | with_reducible apply mx_kd_I | with_reducible apply mx_kd_nw))
def E_X2 (h : mxH) (a : Nat) (c : Nat) : mxH :=
  let h1 := hsR h a 0 (some c)
  let b1 := hpN h1
  let h2 := hnw h1 18 10 10
  let h3 := hsR h2 a 1 (some b1)
  h3
theorem k_X2 {d : Nat} {h : mxH} {a c : Nat} (hd : 1 ≤ d) (hk : mx_kd h a 2) : mx_SM mY_X2_init d [.ref a, .ref c] h (mx_xct (.inl none) (E_X2 h a c)) := by
  refine b_X2_init a c ?_
  refine ⟨by omega, ?_⟩
  refine ⟨mx_kdk (by repeat (first | with_reducible exact hk | with_reducible exact mx_kd_new | with_reducible apply mx_kd_R | with_reducible apply mx_kd_I | with_reducible apply mx_kd_nw | with_reducible apply mx_kd_X9)), ?_⟩
  rintro _ rfl
  rintro _ _ rfl rfl
  refine ⟨mx_kdk (by repeat (first | with_reducible exact hk | with_reducible exact mx_kd_new | with_reducible apply mx_kd_R | with_reducible apply mx_kd_I | with_reducible apply mx_kd_nw | with_reducible apply mx_kd_X9)), ?_⟩
  rintro _ rfl
  exact ⟨rfl, rfl⟩
theorem mx_kd_X2 {h : mxH} {b k a c : Nat} (q : mx_kd h b k) : mx_kd (E_X2 h a c) b k := by
  unfold E_X2
  dsimp only
  exact (by repeat (first | with_reducible exact q | with_reducible exact mx_kd_new | with_reducible apply mx_kd_R | with_reducible apply mx_kd_I | with_reducible apply mx_kd_nw | with_reducible apply mx_kd_X9))
theorem mx_rr_X2 {h : mxH} {w k r a c : Nat} (hwa : w ≠ a) (q : mx_rr h w k r) : mx_rr (E_X2 h a c) w k r := by
  unfold E_X2
  dsimp only
  exact (by repeat (first | with_reducible exact q | with_reducible apply mx_rr_nw | with_reducible apply mx_rr_I | with_reducible refine mx_rr_R hwa ?_))
def E_X3 (h : mxH) (a : Nat) : mxH :=
  let b1 := hpN h
  let h1 := hnw h 13 256000 256000
  let h2 := hsR h1 a 0 (some b1)
  let b2 := hpN h2
  let h3 := hnw h2 14 3200 3200
  let h4 := hsR h3 a 1 (some b2)
  let b3 := hpN h4
  let h5 := hnw h4 16 3200 3200
  let h6 := hsR h5 a 2 (some b3)
  let h7 := hsI h6 a 3 (1 : Int32)
  h7
theorem k_X3 {d : Nat} {h : mxH} {a : Nat} (hd : 1 ≤ d) (hk : mx_kd h a 3) : mx_SM mY_X3_init d [.ref a] h (mx_xct (.inl none) (E_X3 h a)) := by
  refine b_X3_init a  ?_
  refine ⟨by omega, ?_⟩
  rintro _ _ rfl rfl
  refine ⟨mx_kdk (by repeat (first | with_reducible exact hk | with_reducible exact mx_kd_new | with_reducible apply mx_kd_R | with_reducible apply mx_kd_I | with_reducible apply mx_kd_nw | with_reducible apply mx_kd_X9 | with_reducible apply mx_kd_X2)), ?_⟩
  rintro _ rfl
  rintro _ _ rfl rfl
  refine ⟨mx_kdk (by repeat (first | with_reducible exact hk | with_reducible exact mx_kd_new | with_reducible apply mx_kd_R | with_reducible apply mx_kd_I | with_reducible apply mx_kd_nw | with_reducible apply mx_kd_X9 | with_reducible apply mx_kd_X2)), ?_⟩
  rintro _ rfl
  rintro _ _ rfl rfl
  refine ⟨mx_kdk (by repeat (first | with_reducible exact hk | with_reducible exact mx_kd_new | with_reducible apply mx_kd_R | with_reducible apply mx_kd_I | with_reducible apply mx_kd_nw | with_reducible apply mx_kd_X9 | with_reducible apply mx_kd_X2)), ?_⟩
  rintro _ rfl
  rintro _ rfl
  exact ⟨rfl, rfl⟩
theorem mx_kd_X3 {h : mxH} {b k a : Nat} (q : mx_kd h b k) : mx_kd (E_X3 h a) b k := by
  unfold E_X3
  dsimp only
  exact (by repeat (first | with_reducible exact q | with_reducible exact mx_kd_new | with_reducible apply mx_kd_R | with_reducible apply mx_kd_I | with_reducible apply mx_kd_nw | with_reducible apply mx_kd_X9 | with_reducible apply mx_kd_X2))
def E_X0 (h : mxH) (a : Nat) : mxH :=
  let b1 := hpN h
  let h1 := hnw h 14 302 302
  let h2 := hsR h1 a 1 (some b1)
  let b2 := hpN h2
  let h3 := hnw h2 14 302 302
  let h4 := hsR h3 a 2 (some b2)
  let b3 := hpN h4
  let h5 := hnw h4 14 12040 12040
  let h6 := hsR h5 a 4 (some b3)
  let b4 := hpN h6
  let h7 := hnw h6 14 12040 12040
  let h8 := hsR h7 a 5 (some b4)
  let h9 := hsI h8 a 7 (-1 : Int32)
  h9
theorem k_X0 {d : Nat} {h : mxH} {a : Nat} (hd : 1 ≤ d) (hk : mx_kd h a 0) : mx_SM mY_X0_init d [.ref a] h (mx_xct (.inl none) (E_X0 h a)) := by
  refine b_X0_init a  ?_
  refine ⟨by omega, ?_⟩
  rintro _ _ rfl rfl
  refine ⟨mx_kdk (by repeat (first | with_reducible exact hk | with_reducible exact mx_kd_new | with_reducible apply mx_kd_R | with_reducible apply mx_kd_I | with_reducible apply mx_kd_nw | with_reducible apply mx_kd_X9 | with_reducible apply mx_kd_X2 | with_reducible apply mx_kd_X3)), ?_⟩
  rintro _ rfl
  rintro _ _ rfl rfl
  refine ⟨mx_kdk (by repeat (first | with_reducible exact hk | with_reducible exact mx_kd_new | with_reducible apply mx_kd_R | with_reducible apply mx_kd_I | with_reducible apply mx_kd_nw | with_reducible apply mx_kd_X9 | with_reducible apply mx_kd_X2 | with_reducible apply mx_kd_X3)), ?_⟩
  rintro _ rfl
  rintro _ _ rfl rfl
  refine ⟨mx_kdk (by repeat (first | with_reducible exact hk | with_reducible exact mx_kd_new | with_reducible apply mx_kd_R | with_reducible apply mx_kd_I | with_reducible apply mx_kd_nw | with_reducible apply mx_kd_X9 | with_reducible apply mx_kd_X2 | with_reducible apply mx_kd_X3)), ?_⟩
  rintro _ rfl
  rintro _ _ rfl rfl
  refine ⟨mx_kdk (by repeat (first | with_reducible exact hk | with_reducible exact mx_kd_new | with_reducible apply mx_kd_R | with_reducible apply mx_kd_I | with_reducible apply mx_kd_nw | with_reducible apply mx_kd_X9 | with_reducible apply mx_kd_X2 | with_reducible apply mx_kd_X3)), ?_⟩
  rintro _ rfl
  rintro _ rfl
  exact ⟨rfl, rfl⟩
theorem mx_kd_X0 {h : mxH} {b k a : Nat} (q : mx_kd h b k) : mx_kd (E_X0 h a) b k := by
  unfold E_X0
  dsimp only
  exact (by repeat (first | with_reducible exact q | with_reducible exact mx_kd_new | with_reducible apply mx_kd_R | with_reducible apply mx_kd_I | with_reducible apply mx_kd_nw | with_reducible apply mx_kd_X9 | with_reducible apply mx_kd_X2 | with_reducible apply mx_kd_X3))
def E_X8 (h : mxH) (a : Nat) (c : Nat) : mxH :=
  let b1 := hpN h
  let h1 := hnw h 9 0 3
  let h2 := E_X9 h1 b1 20
  let h3 := hsR h2 a 0 (some b1)
  let b2 := hpN h3
  let h4 := hnw h3 9 0 3
  let h5 := E_X9 h4 b2 10
  let h6 := hsR h5 a 1 (some b2)
  let b3 := hpN h6
  let h7 := hnw h6 15 4 4
  let h8 := hsR h7 a 2 (some b3)
  let b4 := hpN h8
  let h9 := hnw h8 2 0 2
  let h10 := E_X2 h9 b4 c
  let h11 := hsR h10 a 3 (some b4)
  let b5 := hpN h11
  let h12 := hnw h11 19 8 8
  let h13 := hsR h12 a 15 (some b5)
  let b6 := hpN h13
  let h14 := hnw h13 14 8 8
  let h15 := hsR h14 a 16 (some b6)
  let b7 := hpN h15
  let h16 := hnw h15 14 8 8
  let h17 := hsR h16 a 17 (some b7)
  h17
theorem k_X8 {d : Nat} {h : mxH} {a c : Nat} (hd : 2 ≤ d) (hk : mx_kd h a 8) : mx_SM mY_X8_init d [.ref a, .ref c] h (mx_xct (.inl none) (E_X8 h a c)) := by
  refine b_X8_init a c ?_
  refine ⟨by omega, ?_⟩
  rintro _ _ rfl rfl
  refine mx_xKV (k_X9 (n := 20) (by omega) (by repeat (first | with_reducible exact hk | with_reducible exact mx_kd_new | with_reducible apply mx_kd_R | with_reducible apply mx_kd_I | with_reducible apply mx_kd_nw | with_reducible apply mx_kd_X9 | with_reducible apply mx_kd_X2 | with_reducible apply mx_kd_X3 | with_reducible apply mx_kd_X0)) (by decide) (by decide)) ?_
  refine ⟨mx_kdk (by repeat (first | with_reducible exact hk | with_reducible exact mx_kd_new | with_reducible apply mx_kd_R | with_reducible apply mx_kd_I | with_reducible apply mx_kd_nw | with_reducible apply mx_kd_X9 | with_reducible apply mx_kd_X2 | with_reducible apply mx_kd_X3 | with_reducible apply mx_kd_X0)), ?_⟩
  rintro _ rfl
  rintro _ _ rfl rfl
  refine mx_xKV (k_X9 (n := 10) (by omega) (by repeat (first | with_reducible exact hk | with_reducible exact mx_kd_new | with_reducible apply mx_kd_R | with_reducible apply mx_kd_I | with_reducible apply mx_kd_nw | with_reducible apply mx_kd_X9 | with_reducible apply mx_kd_X2 | with_reducible apply mx_kd_X3 | with_reducible apply mx_kd_X0)) (by decide) (by decide)) ?_
  refine ⟨mx_kdk (by repeat (first | with_reducible exact hk | with_reducible exact mx_kd_new | with_reducible apply mx_kd_R | with_reducible apply mx_kd_I | with_reducible apply mx_kd_nw | with_reducible apply mx_kd_X9 | with_reducible apply mx_kd_X2 | with_reducible apply mx_kd_X3 | with_reducible apply mx_kd_X0)), ?_⟩
  rintro _ rfl
  rintro _ _ rfl rfl
  refine ⟨mx_kdk (by repeat (first | with_reducible exact hk | with_reducible exact mx_kd_new | with_reducible apply mx_kd_R | with_reducible apply mx_kd_I | with_reducible apply mx_kd_nw | with_reducible apply mx_kd_X9 | with_reducible apply mx_kd_X2 | with_reducible apply mx_kd_X3 | with_reducible apply mx_kd_X0)), ?_⟩
  rintro _ rfl
  rintro _ _ rfl rfl
  refine mx_xKV (k_X2 (by omega) (by repeat (first | with_reducible exact hk | with_reducible exact mx_kd_new | with_reducible apply mx_kd_R | with_reducible apply mx_kd_I | with_reducible apply mx_kd_nw | with_reducible apply mx_kd_X9 | with_reducible apply mx_kd_X2 | with_reducible apply mx_kd_X3 | with_reducible apply mx_kd_X0))) ?_
  refine ⟨mx_kdk (by repeat (first | with_reducible exact hk | with_reducible exact mx_kd_new | with_reducible apply mx_kd_R | with_reducible apply mx_kd_I | with_reducible apply mx_kd_nw | with_reducible apply mx_kd_X9 | with_reducible apply mx_kd_X2 | with_reducible apply mx_kd_X3 | with_reducible apply mx_kd_X0)), ?_⟩
  rintro _ rfl
  rintro _ _ rfl rfl
  refine ⟨mx_kdk (by repeat (first | with_reducible exact hk | with_reducible exact mx_kd_new | with_reducible apply mx_kd_R | with_reducible apply mx_kd_I | with_reducible apply mx_kd_nw | with_reducible apply mx_kd_X9 | with_reducible apply mx_kd_X2 | with_reducible apply mx_kd_X3 | with_reducible apply mx_kd_X0)), ?_⟩
  rintro _ rfl
  rintro _ _ rfl rfl
  refine ⟨mx_kdk (by repeat (first | with_reducible exact hk | with_reducible exact mx_kd_new | with_reducible apply mx_kd_R | with_reducible apply mx_kd_I | with_reducible apply mx_kd_nw | with_reducible apply mx_kd_X9 | with_reducible apply mx_kd_X2 | with_reducible apply mx_kd_X3 | with_reducible apply mx_kd_X0)), ?_⟩
  rintro _ rfl
  rintro _ _ rfl rfl
  refine ⟨mx_kdk (by repeat (first | with_reducible exact hk | with_reducible exact mx_kd_new | with_reducible apply mx_kd_R | with_reducible apply mx_kd_I | with_reducible apply mx_kd_nw | with_reducible apply mx_kd_X9 | with_reducible apply mx_kd_X2 | with_reducible apply mx_kd_X3 | with_reducible apply mx_kd_X0)), ?_⟩
  rintro _ rfl
  exact ⟨rfl, rfl⟩
theorem mx_kd_X8 {h : mxH} {b k a c : Nat} (q : mx_kd h b k) : mx_kd (E_X8 h a c) b k := by
  unfold E_X8
  dsimp only
  exact (by repeat (first | with_reducible exact q | with_reducible exact mx_kd_new | with_reducible apply mx_kd_R | with_reducible apply mx_kd_I | with_reducible apply mx_kd_nw | with_reducible apply mx_kd_X9 | with_reducible apply mx_kd_X2 | with_reducible apply mx_kd_X3 | with_reducible apply mx_kd_X0))
def E_X10 (h : mxH) (a : Nat) (c : Nat) : mxH :=
  let b1 := hpN h
  let h1 := hnw h 15 8 8
  let h2 := hsR h1 a 0 (some b1)
  let b2 := hpN h2
  let h3 := hnw h2 14 8 8
  let h4 := hsR h3 a 1 (some b2)
  let b3 := hpN h4
  let h5 := hnw h4 14 320 320
  let h6 := hsR h5 a 2 (some b3)
  let b4 := hpN h6
  let h7 := hnw h6 14 40 40
  let h8 := hsR h7 a 4 (some b4)
  let b5 := hpN h8
  let h9 := hnw h8 14 100 100
  let h10 := hsR h9 a 6 (some b5)
  let b6 := hpN h10
  let h11 := hnw h10 8 0 18
  let h12 := E_X8 h11 b6 c
  let h13 := hsR h12 a 8 (some b6)
  let b7 := hpN h13
  let h14 := hnw h13 14 180 180
  let h15 := hsR h14 a 9 (some b7)
  h15
theorem k_X10 {d : Nat} {h : mxH} {a c : Nat} (hd : 3 ≤ d) (hk : mx_kd h a 10) : mx_SM mY_X10_init d [.ref a, .ref c] h (mx_xct (.inl none) (E_X10 h a c)) := by
  refine b_X10_init a c ?_
  refine ⟨by omega, ?_⟩
  rintro _ _ rfl rfl
  refine ⟨mx_kdk (by repeat (first | with_reducible exact hk | with_reducible exact mx_kd_new | with_reducible apply mx_kd_R | with_reducible apply mx_kd_I | with_reducible apply mx_kd_nw | with_reducible apply mx_kd_X9 | with_reducible apply mx_kd_X2 | with_reducible apply mx_kd_X3 | with_reducible apply mx_kd_X0 | with_reducible apply mx_kd_X8)), ?_⟩
  rintro _ rfl
  rintro _ _ rfl rfl
  refine ⟨mx_kdk (by repeat (first | with_reducible exact hk | with_reducible exact mx_kd_new | with_reducible apply mx_kd_R | with_reducible apply mx_kd_I | with_reducible apply mx_kd_nw | with_reducible apply mx_kd_X9 | with_reducible apply mx_kd_X2 | with_reducible apply mx_kd_X3 | with_reducible apply mx_kd_X0 | with_reducible apply mx_kd_X8)), ?_⟩
  rintro _ rfl
  rintro _ _ rfl rfl
  refine ⟨mx_kdk (by repeat (first | with_reducible exact hk | with_reducible exact mx_kd_new | with_reducible apply mx_kd_R | with_reducible apply mx_kd_I | with_reducible apply mx_kd_nw | with_reducible apply mx_kd_X9 | with_reducible apply mx_kd_X2 | with_reducible apply mx_kd_X3 | with_reducible apply mx_kd_X0 | with_reducible apply mx_kd_X8)), ?_⟩
  rintro _ rfl
  rintro _ _ rfl rfl
  refine ⟨mx_kdk (by repeat (first | with_reducible exact hk | with_reducible exact mx_kd_new | with_reducible apply mx_kd_R | with_reducible apply mx_kd_I | with_reducible apply mx_kd_nw | with_reducible apply mx_kd_X9 | with_reducible apply mx_kd_X2 | with_reducible apply mx_kd_X3 | with_reducible apply mx_kd_X0 | with_reducible apply mx_kd_X8)), ?_⟩
  rintro _ rfl
  rintro _ _ rfl rfl
  refine ⟨mx_kdk (by repeat (first | with_reducible exact hk | with_reducible exact mx_kd_new | with_reducible apply mx_kd_R | with_reducible apply mx_kd_I | with_reducible apply mx_kd_nw | with_reducible apply mx_kd_X9 | with_reducible apply mx_kd_X2 | with_reducible apply mx_kd_X3 | with_reducible apply mx_kd_X0 | with_reducible apply mx_kd_X8)), ?_⟩
  rintro _ rfl
  rintro _ _ rfl rfl
  refine mx_xKV (k_X8 (by omega) (by repeat (first | with_reducible exact hk | with_reducible exact mx_kd_new | with_reducible apply mx_kd_R | with_reducible apply mx_kd_I | with_reducible apply mx_kd_nw | with_reducible apply mx_kd_X9 | with_reducible apply mx_kd_X2 | with_reducible apply mx_kd_X3 | with_reducible apply mx_kd_X0 | with_reducible apply mx_kd_X8))) ?_
  refine ⟨mx_kdk (by repeat (first | with_reducible exact hk | with_reducible exact mx_kd_new | with_reducible apply mx_kd_R | with_reducible apply mx_kd_I | with_reducible apply mx_kd_nw | with_reducible apply mx_kd_X9 | with_reducible apply mx_kd_X2 | with_reducible apply mx_kd_X3 | with_reducible apply mx_kd_X0 | with_reducible apply mx_kd_X8)), ?_⟩
  rintro _ rfl
  rintro _ _ rfl rfl
  refine ⟨mx_kdk (by repeat (first | with_reducible exact hk | with_reducible exact mx_kd_new | with_reducible apply mx_kd_R | with_reducible apply mx_kd_I | with_reducible apply mx_kd_nw | with_reducible apply mx_kd_X9 | with_reducible apply mx_kd_X2 | with_reducible apply mx_kd_X3 | with_reducible apply mx_kd_X0 | with_reducible apply mx_kd_X8)), ?_⟩
  rintro _ rfl
  exact ⟨rfl, rfl⟩
theorem mx_kd_X10 {h : mxH} {b k a c : Nat} (q : mx_kd h b k) : mx_kd (E_X10 h a c) b k := by
  unfold E_X10
  dsimp only
  exact (by repeat (first | with_reducible exact q | with_reducible exact mx_kd_new | with_reducible apply mx_kd_R | with_reducible apply mx_kd_I | with_reducible apply mx_kd_nw | with_reducible apply mx_kd_X9 | with_reducible apply mx_kd_X2 | with_reducible apply mx_kd_X3 | with_reducible apply mx_kd_X0 | with_reducible apply mx_kd_X8))
def E_X6 (h : mxH) (a : Nat) (t : Nat) : mxH :=
  let h1 := hsR h a 0 (some t)
  let h2 := hsI h1 a 8 (-1 : Int32)
  h2
theorem k_X6 {d : Nat} {h : mxH} {a t : Nat} (hd : 1 ≤ d) (hk : mx_kd h a 6) : mx_SM mY_X6_init d [.ref a, .ref t] h (mx_xct (.inl none) (E_X6 h a t)) := by
  refine b_X6_init a t ?_
  refine ⟨by omega, ?_⟩
  refine ⟨mx_kdk (by repeat (first | with_reducible exact hk | with_reducible exact mx_kd_new | with_reducible apply mx_kd_R | with_reducible apply mx_kd_I | with_reducible apply mx_kd_nw | with_reducible apply mx_kd_X9 | with_reducible apply mx_kd_X2 | with_reducible apply mx_kd_X3 | with_reducible apply mx_kd_X0 | with_reducible apply mx_kd_X8 | with_reducible apply mx_kd_X10)), ?_⟩
  rintro _ rfl
  rintro _ rfl
  exact ⟨rfl, rfl⟩
theorem mx_kd_X6 {h : mxH} {b k a t : Nat} (q : mx_kd h b k) : mx_kd (E_X6 h a t) b k := by
  unfold E_X6
  dsimp only
  exact (by repeat (first | with_reducible exact q | with_reducible exact mx_kd_new | with_reducible apply mx_kd_R | with_reducible apply mx_kd_I | with_reducible apply mx_kd_nw | with_reducible apply mx_kd_X9 | with_reducible apply mx_kd_X2 | with_reducible apply mx_kd_X3 | with_reducible apply mx_kd_X0 | with_reducible apply mx_kd_X8 | with_reducible apply mx_kd_X10))
def E_X1 (h : mxH) (a : Nat) (w : Nat) (c : Nat) (l : Nat) : mxH :=
  let h1 := hsR h a 0 (some w)
  let h2 := hsR h1 a 1 (some c)
  let h3 := hsR h2 a 2 (some l)
  let b1 := hpN h3
  let h4 := hnw h3 13 80 80
  let h5 := hsR h4 a 3 (some b1)
  h5
theorem k_X1 {d : Nat} {h : mxH} {a w c l : Nat} (hd : 1 ≤ d) (hk : mx_kd h a 1) : mx_SM mY_X1_init d [.ref a, .ref w, .ref c, .ref l] h (mx_xct (.inl none) (E_X1 h a w c l)) := by
  refine b_X1_init a w c l ?_
  refine ⟨by omega, ?_⟩
  refine ⟨mx_kdk (by repeat (first | with_reducible exact hk | with_reducible exact mx_kd_new | with_reducible apply mx_kd_R | with_reducible apply mx_kd_I | with_reducible apply mx_kd_nw | with_reducible apply mx_kd_X9 | with_reducible apply mx_kd_X2 | with_reducible apply mx_kd_X3 | with_reducible apply mx_kd_X0 | with_reducible apply mx_kd_X8 | with_reducible apply mx_kd_X10 | with_reducible apply mx_kd_X6)), ?_⟩
  rintro _ rfl
  rintro _ rfl
  rintro _ rfl
  rintro _ _ rfl rfl
  refine ⟨mx_kdk (by repeat (first | with_reducible exact hk | with_reducible exact mx_kd_new | with_reducible apply mx_kd_R | with_reducible apply mx_kd_I | with_reducible apply mx_kd_nw | with_reducible apply mx_kd_X9 | with_reducible apply mx_kd_X2 | with_reducible apply mx_kd_X3 | with_reducible apply mx_kd_X0 | with_reducible apply mx_kd_X8 | with_reducible apply mx_kd_X10 | with_reducible apply mx_kd_X6)), ?_⟩
  rintro _ rfl
  exact ⟨rfl, rfl⟩
theorem mx_kd_X1 {h : mxH} {b k a w c l : Nat} (q : mx_kd h b k) : mx_kd (E_X1 h a w c l) b k := by
  unfold E_X1
  dsimp only
  exact (by repeat (first | with_reducible exact q | with_reducible exact mx_kd_new | with_reducible apply mx_kd_R | with_reducible apply mx_kd_I | with_reducible apply mx_kd_nw | with_reducible apply mx_kd_X9 | with_reducible apply mx_kd_X2 | with_reducible apply mx_kd_X3 | with_reducible apply mx_kd_X0 | with_reducible apply mx_kd_X8 | with_reducible apply mx_kd_X10 | with_reducible apply mx_kd_X6))
theorem mx_rr_X1 {h : mxH} {w k r a w9 c l : Nat} (hwa : w ≠ a) (q : mx_rr h w k r) : mx_rr (E_X1 h a w9 c l) w k r := by
  unfold E_X1
  dsimp only
  exact (by repeat (first | with_reducible exact q | with_reducible apply mx_rr_nw | with_reducible apply mx_rr_I | with_reducible refine mx_rr_R hwa ?_))
def E_X4 (h : mxH) (a : Nat) (w : Nat) (c : Nat) (l : Nat) (s : Nat) : mxH :=
  let h1 := hsR h a 0 (some w)
  let h2 := hsR h1 a 1 (some c)
  let b1 := hpN h2
  let h3 := hnw h2 1 0 5
  let h4 := E_X1 h3 b1 w c l
  let h5 := hsR h4 a 2 (some b1)
  let b2 := hpN h5
  let h6 := hnw h5 14 12000 12000
  let h7 := hsR h6 a 3 (some b2)
  let b3 := hpN h7
  let h8 := hnw h7 17 300 300
  let h9 := hsR h8 a 5 (some b3)
  let b4 := hpN h9
  let h10 := hnw h9 2 0 2
  let h11 := E_X2 h10 b4 c
  let h12 := hsR h11 a 7 (some b4)
  let h13 := hsR h12 a 10 (some s)
  h13
theorem k_X4 {d : Nat} {h : mxH} {a w c l s : Nat} (hd : 2 ≤ d) (hk : mx_kd h a 4) (hw : mx_kd h w 10) (hs : mx_rr h w 8 s) (hwa : w ≠ a) : mx_SM mY_X4_init d [.ref a, .ref w, .ref c, .ref l] h (mx_xct (.inl none) (E_X4 h a w c l s)) := by
  refine b_X4_init a w c l ?_
  refine ⟨by omega, ?_⟩
  refine ⟨mx_kdk (by repeat (first | with_reducible exact hk | with_reducible exact mx_kd_new | with_reducible apply mx_kd_R | with_reducible apply mx_kd_I | with_reducible apply mx_kd_nw | with_reducible apply mx_kd_X9 | with_reducible apply mx_kd_X2 | with_reducible apply mx_kd_X3 | with_reducible apply mx_kd_X0 | with_reducible apply mx_kd_X8 | with_reducible apply mx_kd_X10 | with_reducible apply mx_kd_X6 | with_reducible apply mx_kd_X1)), ?_⟩
  rintro _ rfl
  rintro _ rfl
  rintro _ _ rfl rfl
  refine mx_xKV (k_X1 (by omega) (by repeat (first | with_reducible exact hk | with_reducible exact mx_kd_new | with_reducible apply mx_kd_R | with_reducible apply mx_kd_I | with_reducible apply mx_kd_nw | with_reducible apply mx_kd_X9 | with_reducible apply mx_kd_X2 | with_reducible apply mx_kd_X3 | with_reducible apply mx_kd_X0 | with_reducible apply mx_kd_X8 | with_reducible apply mx_kd_X10 | with_reducible apply mx_kd_X6 | with_reducible apply mx_kd_X1))) ?_
  refine ⟨mx_kdk (by repeat (first | with_reducible exact hk | with_reducible exact mx_kd_new | with_reducible apply mx_kd_R | with_reducible apply mx_kd_I | with_reducible apply mx_kd_nw | with_reducible apply mx_kd_X9 | with_reducible apply mx_kd_X2 | with_reducible apply mx_kd_X3 | with_reducible apply mx_kd_X0 | with_reducible apply mx_kd_X8 | with_reducible apply mx_kd_X10 | with_reducible apply mx_kd_X6 | with_reducible apply mx_kd_X1)), ?_⟩
  rintro _ rfl
  rintro _ _ rfl rfl
  refine ⟨mx_kdk (by repeat (first | with_reducible exact hk | with_reducible exact mx_kd_new | with_reducible apply mx_kd_R | with_reducible apply mx_kd_I | with_reducible apply mx_kd_nw | with_reducible apply mx_kd_X9 | with_reducible apply mx_kd_X2 | with_reducible apply mx_kd_X3 | with_reducible apply mx_kd_X0 | with_reducible apply mx_kd_X8 | with_reducible apply mx_kd_X10 | with_reducible apply mx_kd_X6 | with_reducible apply mx_kd_X1)), ?_⟩
  rintro _ rfl
  rintro _ _ rfl rfl
  refine ⟨mx_kdk (by repeat (first | with_reducible exact hk | with_reducible exact mx_kd_new | with_reducible apply mx_kd_R | with_reducible apply mx_kd_I | with_reducible apply mx_kd_nw | with_reducible apply mx_kd_X9 | with_reducible apply mx_kd_X2 | with_reducible apply mx_kd_X3 | with_reducible apply mx_kd_X0 | with_reducible apply mx_kd_X8 | with_reducible apply mx_kd_X10 | with_reducible apply mx_kd_X6 | with_reducible apply mx_kd_X1)), ?_⟩
  rintro _ rfl
  rintro _ _ rfl rfl
  refine mx_xKV (k_X2 (by omega) (by repeat (first | with_reducible exact hk | with_reducible exact mx_kd_new | with_reducible apply mx_kd_R | with_reducible apply mx_kd_I | with_reducible apply mx_kd_nw | with_reducible apply mx_kd_X9 | with_reducible apply mx_kd_X2 | with_reducible apply mx_kd_X3 | with_reducible apply mx_kd_X0 | with_reducible apply mx_kd_X8 | with_reducible apply mx_kd_X10 | with_reducible apply mx_kd_X6 | with_reducible apply mx_kd_X1))) ?_
  refine ⟨mx_kdk (by repeat (first | with_reducible exact hk | with_reducible exact mx_kd_new | with_reducible apply mx_kd_R | with_reducible apply mx_kd_I | with_reducible apply mx_kd_nw | with_reducible apply mx_kd_X9 | with_reducible apply mx_kd_X2 | with_reducible apply mx_kd_X3 | with_reducible apply mx_kd_X0 | with_reducible apply mx_kd_X8 | with_reducible apply mx_kd_X10 | with_reducible apply mx_kd_X6 | with_reducible apply mx_kd_X1)), ?_⟩
  rintro _ rfl
  refine ⟨mx_kdk (by repeat (first | with_reducible exact hw | with_reducible exact mx_kd_new | with_reducible apply mx_kd_R | with_reducible apply mx_kd_I | with_reducible apply mx_kd_nw | with_reducible apply mx_kd_X9 | with_reducible apply mx_kd_X2 | with_reducible apply mx_kd_X3 | with_reducible apply mx_kd_X0 | with_reducible apply mx_kd_X8 | with_reducible apply mx_kd_X10 | with_reducible apply mx_kd_X6 | with_reducible apply mx_kd_X1)), ?_⟩
  refine ⟨s, mx_rrk (by repeat (first | with_reducible exact hs | with_reducible apply mx_rr_nw | with_reducible apply mx_rr_I | with_reducible refine mx_rr_R hwa ?_ | with_reducible refine mx_rr_X2 (mx_kd_ne (k := 10) (by repeat (first | with_reducible exact hw | with_reducible exact mx_kd_new | with_reducible apply mx_kd_R | with_reducible apply mx_kd_I | with_reducible apply mx_kd_nw | with_reducible apply mx_kd_X9 | with_reducible apply mx_kd_X2 | with_reducible apply mx_kd_X3 | with_reducible apply mx_kd_X0 | with_reducible apply mx_kd_X8 | with_reducible apply mx_kd_X10 | with_reducible apply mx_kd_X6 | with_reducible apply mx_kd_X1))) ?_ | with_reducible refine mx_rr_X1 (mx_kd_ne (k := 10) (by repeat (first | with_reducible exact hw | with_reducible exact mx_kd_new | with_reducible apply mx_kd_R | with_reducible apply mx_kd_I | with_reducible apply mx_kd_nw | with_reducible apply mx_kd_X9 | with_reducible apply mx_kd_X2 | with_reducible apply mx_kd_X3 | with_reducible apply mx_kd_X0 | with_reducible apply mx_kd_X8 | with_reducible apply mx_kd_X10 | with_reducible apply mx_kd_X6 | with_reducible apply mx_kd_X1))) ?_)), ?_⟩
  rintro _ rfl
  exact ⟨rfl, rfl⟩
theorem mx_kd_X4 {h : mxH} {b k a w c l s : Nat} (q : mx_kd h b k) : mx_kd (E_X4 h a w c l s) b k := by
  unfold E_X4
  dsimp only
  exact (by repeat (first | with_reducible exact q | with_reducible exact mx_kd_new | with_reducible apply mx_kd_R | with_reducible apply mx_kd_I | with_reducible apply mx_kd_nw | with_reducible apply mx_kd_X9 | with_reducible apply mx_kd_X2 | with_reducible apply mx_kd_X3 | with_reducible apply mx_kd_X0 | with_reducible apply mx_kd_X8 | with_reducible apply mx_kd_X10 | with_reducible apply mx_kd_X6 | with_reducible apply mx_kd_X1))
def E_X7 (h : mxH) (a : Nat) : mxH :=
  let b1 := hpN h
  let h1 := hnw h 14 2801 2801
  let h2 := hsR h1 a 0 (some b1)
  let b2 := hpN h2
  let h3 := hnw h2 14 2801 2801
  let h4 := hsR h3 a 1 (some b2)
  let b3 := hpN h4
  let h5 := hnw h4 14 2801 2801
  let h6 := hsR h5 a 2 (some b3)
  let b4 := hpN h6
  let h7 := hnw h6 14 700 700
  let h8 := hsR h7 a 4 (some b4)
  let b5 := hpN h8
  let h9 := hnw h8 14 700 700
  let h10 := hsR h9 a 5 (some b5)
  let b6 := hpN h10
  let h11 := hnw h10 15 700 700
  let h12 := hsR h11 a 6 (some b6)
  let b7 := hpN h12
  let h13 := hnw h12 14 700 700
  let h14 := hsR h13 a 7 (some b7)
  let b8 := hpN h14
  let h15 := hnw h14 14 700 700
  let h16 := hsR h15 a 8 (some b8)
  let b9 := hpN h16
  let h17 := hnw h16 14 700 700
  let h18 := hsR h17 a 9 (some b9)
  let b10 := hpN h18
  let h19 := hnw h18 14 700 700
  let h20 := hsR h19 a 10 (some b10)
  let b11 := hpN h20
  let h21 := hnw h20 14 700 700
  let h22 := hsR h21 a 12 (some b11)
  let b12 := hpN h22
  let h23 := hnw h22 15 700 700
  let h24 := hsR h23 a 13 (some b12)
  let b13 := hpN h24
  let h25 := hnw h24 14 700 700
  let h26 := hsR h25 a 15 (some b13)
  let b14 := hpN h26
  let h27 := hnw h26 15 700 700
  let h28 := hsR h27 a 16 (some b14)
  h28
theorem k_X7 {d : Nat} {h : mxH} {a : Nat} (hd : 1 ≤ d) (hk : mx_kd h a 7) : mx_SM mY_X7_init d [.ref a] h (mx_xct (.inl none) (E_X7 h a)) := by
  refine b_X7_init a  ?_
  refine ⟨by omega, ?_⟩
  rintro _ _ rfl rfl
  refine ⟨mx_kdk (by repeat (first | with_reducible exact hk | with_reducible exact mx_kd_new | with_reducible apply mx_kd_R | with_reducible apply mx_kd_I | with_reducible apply mx_kd_nw | with_reducible apply mx_kd_X9 | with_reducible apply mx_kd_X2 | with_reducible apply mx_kd_X3 | with_reducible apply mx_kd_X0 | with_reducible apply mx_kd_X8 | with_reducible apply mx_kd_X10 | with_reducible apply mx_kd_X6 | with_reducible apply mx_kd_X1 | with_reducible apply mx_kd_X4)), ?_⟩
  rintro _ rfl
  rintro _ _ rfl rfl
  refine ⟨mx_kdk (by repeat (first | with_reducible exact hk | with_reducible exact mx_kd_new | with_reducible apply mx_kd_R | with_reducible apply mx_kd_I | with_reducible apply mx_kd_nw | with_reducible apply mx_kd_X9 | with_reducible apply mx_kd_X2 | with_reducible apply mx_kd_X3 | with_reducible apply mx_kd_X0 | with_reducible apply mx_kd_X8 | with_reducible apply mx_kd_X10 | with_reducible apply mx_kd_X6 | with_reducible apply mx_kd_X1 | with_reducible apply mx_kd_X4)), ?_⟩
  rintro _ rfl
  rintro _ _ rfl rfl
  refine ⟨mx_kdk (by repeat (first | with_reducible exact hk | with_reducible exact mx_kd_new | with_reducible apply mx_kd_R | with_reducible apply mx_kd_I | with_reducible apply mx_kd_nw | with_reducible apply mx_kd_X9 | with_reducible apply mx_kd_X2 | with_reducible apply mx_kd_X3 | with_reducible apply mx_kd_X0 | with_reducible apply mx_kd_X8 | with_reducible apply mx_kd_X10 | with_reducible apply mx_kd_X6 | with_reducible apply mx_kd_X1 | with_reducible apply mx_kd_X4)), ?_⟩
  rintro _ rfl
  rintro _ _ rfl rfl
  refine ⟨mx_kdk (by repeat (first | with_reducible exact hk | with_reducible exact mx_kd_new | with_reducible apply mx_kd_R | with_reducible apply mx_kd_I | with_reducible apply mx_kd_nw | with_reducible apply mx_kd_X9 | with_reducible apply mx_kd_X2 | with_reducible apply mx_kd_X3 | with_reducible apply mx_kd_X0 | with_reducible apply mx_kd_X8 | with_reducible apply mx_kd_X10 | with_reducible apply mx_kd_X6 | with_reducible apply mx_kd_X1 | with_reducible apply mx_kd_X4)), ?_⟩
  rintro _ rfl
  rintro _ _ rfl rfl
  refine ⟨mx_kdk (by repeat (first | with_reducible exact hk | with_reducible exact mx_kd_new | with_reducible apply mx_kd_R | with_reducible apply mx_kd_I | with_reducible apply mx_kd_nw | with_reducible apply mx_kd_X9 | with_reducible apply mx_kd_X2 | with_reducible apply mx_kd_X3 | with_reducible apply mx_kd_X0 | with_reducible apply mx_kd_X8 | with_reducible apply mx_kd_X10 | with_reducible apply mx_kd_X6 | with_reducible apply mx_kd_X1 | with_reducible apply mx_kd_X4)), ?_⟩
  rintro _ rfl
  rintro _ _ rfl rfl
  refine ⟨mx_kdk (by repeat (first | with_reducible exact hk | with_reducible exact mx_kd_new | with_reducible apply mx_kd_R | with_reducible apply mx_kd_I | with_reducible apply mx_kd_nw | with_reducible apply mx_kd_X9 | with_reducible apply mx_kd_X2 | with_reducible apply mx_kd_X3 | with_reducible apply mx_kd_X0 | with_reducible apply mx_kd_X8 | with_reducible apply mx_kd_X10 | with_reducible apply mx_kd_X6 | with_reducible apply mx_kd_X1 | with_reducible apply mx_kd_X4)), ?_⟩
  rintro _ rfl
  rintro _ _ rfl rfl
  refine ⟨mx_kdk (by repeat (first | with_reducible exact hk | with_reducible exact mx_kd_new | with_reducible apply mx_kd_R | with_reducible apply mx_kd_I | with_reducible apply mx_kd_nw | with_reducible apply mx_kd_X9 | with_reducible apply mx_kd_X2 | with_reducible apply mx_kd_X3 | with_reducible apply mx_kd_X0 | with_reducible apply mx_kd_X8 | with_reducible apply mx_kd_X10 | with_reducible apply mx_kd_X6 | with_reducible apply mx_kd_X1 | with_reducible apply mx_kd_X4)), ?_⟩
  rintro _ rfl
  rintro _ _ rfl rfl
  refine ⟨mx_kdk (by repeat (first | with_reducible exact hk | with_reducible exact mx_kd_new | with_reducible apply mx_kd_R | with_reducible apply mx_kd_I | with_reducible apply mx_kd_nw | with_reducible apply mx_kd_X9 | with_reducible apply mx_kd_X2 | with_reducible apply mx_kd_X3 | with_reducible apply mx_kd_X0 | with_reducible apply mx_kd_X8 | with_reducible apply mx_kd_X10 | with_reducible apply mx_kd_X6 | with_reducible apply mx_kd_X1 | with_reducible apply mx_kd_X4)), ?_⟩
  rintro _ rfl
  rintro _ _ rfl rfl
  refine ⟨mx_kdk (by repeat (first | with_reducible exact hk | with_reducible exact mx_kd_new | with_reducible apply mx_kd_R | with_reducible apply mx_kd_I | with_reducible apply mx_kd_nw | with_reducible apply mx_kd_X9 | with_reducible apply mx_kd_X2 | with_reducible apply mx_kd_X3 | with_reducible apply mx_kd_X0 | with_reducible apply mx_kd_X8 | with_reducible apply mx_kd_X10 | with_reducible apply mx_kd_X6 | with_reducible apply mx_kd_X1 | with_reducible apply mx_kd_X4)), ?_⟩
  rintro _ rfl
  rintro _ _ rfl rfl
  refine ⟨mx_kdk (by repeat (first | with_reducible exact hk | with_reducible exact mx_kd_new | with_reducible apply mx_kd_R | with_reducible apply mx_kd_I | with_reducible apply mx_kd_nw | with_reducible apply mx_kd_X9 | with_reducible apply mx_kd_X2 | with_reducible apply mx_kd_X3 | with_reducible apply mx_kd_X0 | with_reducible apply mx_kd_X8 | with_reducible apply mx_kd_X10 | with_reducible apply mx_kd_X6 | with_reducible apply mx_kd_X1 | with_reducible apply mx_kd_X4)), ?_⟩
  rintro _ rfl
  rintro _ _ rfl rfl
  refine ⟨mx_kdk (by repeat (first | with_reducible exact hk | with_reducible exact mx_kd_new | with_reducible apply mx_kd_R | with_reducible apply mx_kd_I | with_reducible apply mx_kd_nw | with_reducible apply mx_kd_X9 | with_reducible apply mx_kd_X2 | with_reducible apply mx_kd_X3 | with_reducible apply mx_kd_X0 | with_reducible apply mx_kd_X8 | with_reducible apply mx_kd_X10 | with_reducible apply mx_kd_X6 | with_reducible apply mx_kd_X1 | with_reducible apply mx_kd_X4)), ?_⟩
  rintro _ rfl
  rintro _ _ rfl rfl
  refine ⟨mx_kdk (by repeat (first | with_reducible exact hk | with_reducible exact mx_kd_new | with_reducible apply mx_kd_R | with_reducible apply mx_kd_I | with_reducible apply mx_kd_nw | with_reducible apply mx_kd_X9 | with_reducible apply mx_kd_X2 | with_reducible apply mx_kd_X3 | with_reducible apply mx_kd_X0 | with_reducible apply mx_kd_X8 | with_reducible apply mx_kd_X10 | with_reducible apply mx_kd_X6 | with_reducible apply mx_kd_X1 | with_reducible apply mx_kd_X4)), ?_⟩
  rintro _ rfl
  rintro _ _ rfl rfl
  refine ⟨mx_kdk (by repeat (first | with_reducible exact hk | with_reducible exact mx_kd_new | with_reducible apply mx_kd_R | with_reducible apply mx_kd_I | with_reducible apply mx_kd_nw | with_reducible apply mx_kd_X9 | with_reducible apply mx_kd_X2 | with_reducible apply mx_kd_X3 | with_reducible apply mx_kd_X0 | with_reducible apply mx_kd_X8 | with_reducible apply mx_kd_X10 | with_reducible apply mx_kd_X6 | with_reducible apply mx_kd_X1 | with_reducible apply mx_kd_X4)), ?_⟩
  rintro _ rfl
  rintro _ _ rfl rfl
  refine ⟨mx_kdk (by repeat (first | with_reducible exact hk | with_reducible exact mx_kd_new | with_reducible apply mx_kd_R | with_reducible apply mx_kd_I | with_reducible apply mx_kd_nw | with_reducible apply mx_kd_X9 | with_reducible apply mx_kd_X2 | with_reducible apply mx_kd_X3 | with_reducible apply mx_kd_X0 | with_reducible apply mx_kd_X8 | with_reducible apply mx_kd_X10 | with_reducible apply mx_kd_X6 | with_reducible apply mx_kd_X1 | with_reducible apply mx_kd_X4)), ?_⟩
  rintro _ rfl
  exact ⟨rfl, rfl⟩
theorem mx_kd_X7 {h : mxH} {b k a : Nat} (q : mx_kd h b k) : mx_kd (E_X7 h a) b k := by
  unfold E_X7
  dsimp only
  exact (by repeat (first | with_reducible exact q | with_reducible exact mx_kd_new | with_reducible apply mx_kd_R | with_reducible apply mx_kd_I | with_reducible apply mx_kd_nw | with_reducible apply mx_kd_X9 | with_reducible apply mx_kd_X2 | with_reducible apply mx_kd_X3 | with_reducible apply mx_kd_X0 | with_reducible apply mx_kd_X8 | with_reducible apply mx_kd_X10 | with_reducible apply mx_kd_X6 | with_reducible apply mx_kd_X1 | with_reducible apply mx_kd_X4))
