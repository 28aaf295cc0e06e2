/-! SHELL.beginAnew: kinds stay through Handles.beginAnew -/
section MXSC
variable {d : Nat} {h : mxH}
theorem mx_kd_put {b k ch sl i : Nat} {new : Option Nat} (q : mx_kd h b k) : mx_kd (hd_put h ch sl i new) b k := by
  obtain ⟨e1, -, -, e4, -, -⟩ := hd_put_same (h := h) ch sl i new
  exact ⟨by rw [e1]; exact q.1, by rw [e4]; exact q.2⟩
theorem mx_kd_open {b k ch : Nat} {kd fl pp ps : Int32} (q : mx_kd h b k) : mx_kd (hd_open h ch kd fl pp ps) b k := by
  unfold hd_open
  split
  · exact (mx_kd_nw (kd := 5) (l := 0) (z := 6) q)
  · exact q
theorem mx_kd_close {b k ch sl : Nat} (q : mx_kd h b k) : mx_kd (hd_close ch sl 10 0 h) b k := by
  obtain ⟨e1, -, -, e4, -, -⟩ := hd_close_same ch sl 10 0 h
  exact ⟨by rw [e1]; exact q.1, by rw [e4]; exact q.2⟩
theorem mx_kd_begin {b k ch sl : Nat} (q : mx_kd h b k) : mx_kd (hd_begin h ch sl) b k :=
  mx_kd_put (mx_kd_put (mx_kd_put (mx_kd_open (mx_kd_close q))))
/-- what Shell.beginAnew leaves, behind the loop -/
def sh_begin (h : mxH) (x ch sl : Nat) : mxH := sh_prep (hsI (hsI (hd_begin h ch sl) x 4 0) x 6 0) x
theorem k_X8_beginAnew_end (hd : 4 ≤ d) {x tv tf ac hn ch sl : Nat} (hx : sh_at h x tv tf ac hn) (hxn : x < hpN h) (q : hd_ok h hn ch sl) (hf : hd_fq h) (b1 : hn < hpN h) (b2 : ch < hpN h) (b3 : sl < hpN h) : mx_SX mY_X8_beginAnew d 18 [(0, .ref x), (1, .int (nI 4))] [] h (mx_xct (.inl none) (sh_begin h x ch sl)) := by
  refine b_X8_beginAnew_18 x (nI 4) ⟨fun _ => ⟨hx.1, hn, hx.2.2.2.2.1, by omega, hx.2.2.2.2.2.2.2.2.2, ?_⟩, fun c => absurd (show nI 4 ≤ nI 4 from nI_le (Nat.le_refl 4) (by omega)) c⟩
  refine mx_xKV (((k_X2_beginAnew (by omega) q hf b1 b2 b3)).mono fun r h1 w => w.1) ⟨(mx_kd_begin ⟨hxn, hx.1⟩).2, ?_⟩
  rintro _ rfl _ rfl
  exact mx_xKV (k_X8_prepare (mx_kd_begin (ch := ch) (sl := sl) ⟨hxn, hx.1⟩).2) ⟨rfl, rfl⟩
end MXSC
