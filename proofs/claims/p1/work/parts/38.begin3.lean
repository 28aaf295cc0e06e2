/-! HANDLES: beginAnew, its contract -/
section MXBI
variable {d : Nat} {h : mxH}
theorem mx_xKR {Y : mxY} {As : List Value} {h' : mxH} {v : Option Nat} (k : mx_SM Y d As h (mx_xct (.inl (some (va_rf v))) h')) {P : Option Nat → mxH → Prop} {X : String → mxH → Prop} (hp : P v h') : mx_SM Y d As h (mx_KR P X) :=
  k.mono fun r1 h1 q => Or.inl ⟨v, q.1, by rw [q.2]; exact hp⟩
theorem hd_close_same (ch sl : Nat) : ∀ m i (h : mxH), hpN (hd_close ch sl m i h) = hpN h ∧ hpC (hd_close ch sl m i h) = hpC h ∧ hpS (hd_close ch sl m i h) = hpS h ∧ hpK (hd_close ch sl m i h) = hpK h ∧ hpZ (hd_close ch sl m i h) = hpZ h ∧ hpL (hd_close ch sl m i h) = hpL h := by
  intro m
  induction m with
  | zero => intro i h; exact ⟨rfl, rfl, rfl, rfl, rfl, rfl⟩
  | succ m ih =>
    intro i h
    obtain ⟨a1, a2, a3, a4, a5, a6⟩ := ih (i + 1) (hd_put h ch sl i none)
    obtain ⟨b1, b2, b3, b4, b5, b6⟩ := hd_put_same (h := h) ch sl i none
    exact ⟨a1.trans b1, a2.trans b2, a3.trans b3, a4.trans b4, a5.trans b5, a6.trans b6⟩
/-- Handles.beginAnew -/
theorem k_X2_beginAnew (hd : 3 ≤ d) {x ch sl : Nat} (q : hd_ok h x ch sl) (hf : hd_fq h) (b1 : x < hpN h) (b2 : ch < hpN h) (b3 : sl < hpN h) : mx_SM mY_X2_beginAnew d [.ref x] h (fun r h' => mx_xct (.inl none) (hd_begin h ch sl) r h' ∧ hd_ok h' x ch sl ∧ hd_fq h') := by
  have q1 := q.close 10 0 h rfl
  have f1 := hf.close 10 0 h rfl q
  have n1 := (hd_close_same ch sl 10 0 h).1
  obtain ⟨q2, f2, o2⟩ := hd_open_ok (kd := 1) (fl := -1) (pp := -1) (ps := 0) q1 f1 (by rw [n1]; exact b1) (by rw [n1]; exact b2) (by rw [n1]; exact b3)
  have K : ∀ (g : mxH) (i : Nat), mx_kd g (hd_opened (hd_close ch sl 10 0 h) ch) 5 → mx_kd (hd_put g ch sl i (some (hd_opened (hd_close ch sl 10 0 h) ch))) (hd_opened (hd_close ch sl 10 0 h) ch) 5 := fun g i k => by
    obtain ⟨e1, -, -, e4, -, -⟩ := hd_put_same (h := g) ch sl i (some (hd_opened (hd_close ch sl 10 0 h) ch))
    exact ⟨by rw [e1]; exact k.1, by rw [e4]; exact k.2⟩
  have N : ∀ (g : mxH), mx_kd g (hd_opened (hd_close ch sl 10 0 h) ch) 5 → ∀ b, some (hd_opened (hd_close ch sl 10 0 h) ch) = some b → mx_kd g b 5 := fun g k b e => by cases e; exact k
  have o3 := K _ 0 o2
  have o4 := K _ 1 o3
  have q3 := q2.put (i := 0) (by omega) (N _ o2)
  have q4 := q3.put (i := 1) (by omega) (N _ o3)
  have q5 := q4.put (i := 2) (by omega) (N _ o4)
  have f3 := f2.put (i := 0) (new := some (hd_opened (hd_close ch sl 10 0 h) ch)) q2
  have f4 := f3.put (i := 1) (new := some (hd_opened (hd_close ch sl 10 0 h) ch)) q3
  have f5 := f4.put (i := 2) (new := some (hd_opened (hd_close ch sl 10 0 h) ch)) q4
  refine b_X2_beginAnew x ⟨by omega, q.1.1, mx_xKV (k_X2_closeAll (by omega) q.1 q.2.1.row) ⟨q1.1.1, ch, q1.1.2.1, q1.1.2.2.2.1, ?_⟩⟩
  refine mx_xKR (v := some (hd_opened (hd_close ch sl 10 0 h) ch)) (k_X0_open (by omega) q1.1.2.2.2.1 q1.2.2) ⟨q2.1.1, ?_⟩
  refine mx_xKV (k_X2_put (i := 0) q2.1 (by omega) (fun b e => (N _ o2 b e).2) (q2.2.1.row 0 (by omega))) ⟨q3.1.1, ?_⟩
  refine mx_xKV (k_X2_put (i := 1) q3.1 (by omega) (fun b e => (N _ o3 b e).2) (q3.2.1.row 1 (by omega))) ⟨q4.1.1, ?_⟩
  exact mx_xKV (k_X2_put (i := 2) q4.1 (by omega) (fun b e => (N _ o4 b e).2) (q4.2.1.row 2 (by omega))) ⟨⟨rfl, rfl⟩, q5, f5⟩
end MXBI
