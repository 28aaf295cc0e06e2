/-! Lines.copyTo; Table.put without room -/
section MXCY
variable {h h1 h2 : mxH} {d n x at_ : Nat}
theorem k_X3_copyTo (hd : 1 ≤ d) (s : SC h) {v : Int32} {l : spL} (c : CLn h v l) (hx : hpK h x = 13) (hx2 : hpZ h x < 2 ^ 31) (hz : at_ ≤ hpZ h x) :
    mx_SM mY_X3_copyTo d [.ref 131, .int v, .ref x, .int (nI at_)] h (fun r h1 => ∃ F, r = .inl (some (.int (nI (at_ + min l.length (hpZ h x - at_))))) ∧ h1 = hrI h x F ∧ (∀ k, k < at_ → F k = hpI h x k) ∧ ∀ k (hk : k < l.length), at_ + k < hpZ h x → F (at_ + k) = l[k]) := by
  obtain ⟨i, rfl, hi, hu, l8, en, eb⟩ := c
  refine b_X3_copyTo 131 (nI i) x (nI at_) ⟨fun c => absurd c (nI_pos (by omega)), fun _ => ⟨fun c => absurd c (show ¬ nI 3200 ≤ nI i from nI_ge hi (by omega)), fun _ => ⟨fun c => absurd c (nI_pos (by omega)), fun _ => ⟨hx, fun _ => ⟨sc_k131 s, 133, sc_r131_1 s, sc_k133 s, by rw [sc_z133 s]; exact vp_in_nI hi (by omega), ?_⟩, fun c => absurd (nI_le hz hx2) c⟩⟩⟩⟩
  rw [nI_clamp (show i < 2 ^ 31 by omega), en, nI_sb hz, show (80 : Int32) = nI 80 from rfl, pk_mul, nI_clamp (show i * 80 < 2 ^ 31 by omega), nI_clamp (show at_ < 2 ^ 31 by omega), nI_clamp (show hpZ h x - at_ < 2 ^ 31 by omega), nI_clamp (show l.length < 2 ^ 31 by omega), nI_add, nI_add, show i * 80 = 80 * i from Nat.mul_comm _ _]
  refine ⟨fun c => ?_, fun c => ?_⟩
  · have c := (nI_leI (by omega) (by omega)).mp c
    have em : min l.length (hpZ h x - at_) = hpZ h x - at_ := by omega
    refine ⟨132, sc_r131_0 s, sc_k132 s, nI_pos (by omega), nI_pos (by omega), nI_pos (by omega), by rw [sc_z132 s]; omega, by omega, fun k hk => ?_, hd, ?_⟩
    · have := eb k (by omega)
      rw [this.1, ← this.2]
      exact pk_fb _
    · rintro _ rfl
      rw [em]
      refine ⟨_, rfl, rfl, fun k hk => pk_cpy_out (by omega), fun k hk k2 => ?_⟩
      rw [pk_cpy_in (by omega) (by omega), show 80 * i + (at_ + k - at_) = 80 * i + k by omega]
      exact (eb k hk).1
  · have c : l.length < hpZ h x - at_ := by
      rcases Nat.lt_or_ge l.length (hpZ h x - at_) with g | g
      · exact g
      · exact absurd (nI_le g (by omega)) c
    have em : min l.length (hpZ h x - at_) = l.length := by omega
    refine ⟨132, sc_r131_0 s, sc_k132 s, nI_pos (by omega), nI_pos (by omega), nI_pos (by omega), by rw [sc_z132 s]; omega, by omega, fun k hk => ?_, hd, ?_⟩
    · have := eb k (by omega)
      rw [this.1, ← this.2]
      exact pk_fb _
    · rintro _ rfl
      rw [em]
      refine ⟨_, rfl, rfl, fun k hk => pk_cpy_out (by omega), fun k hk k2 => ?_⟩
      rw [pk_cpy_in (by omega) (by omega), show 80 * i + (at_ + k - at_) = 80 * i + k by omega]
      exact (eb k hk).1
theorem k_X9_put_no (hd : 1 ≤ d) {t na va n : Nat} {k : Int64} {v : Int32} (ht : tb_at h t na va n) (hn : n = hpZ h na) (hx : mx_ix (hpL h na) k n 0 = -1) : mx_SM mY_X9_put d [.ref t, .long k, .int v] h (mx_xct (.inl (some (.int 0))) h) := by
  obtain ⟨h1, h2, h3, h4, h5, h6, h7, h8, h9⟩ := ht
  refine b_X9_put t k v ⟨hd, h1, mx_xKI2 (k_X9_find h1 h2 h4 h8 h9 h7) ?_⟩
  rw [hx]
  refine ⟨fun c => absurd c (by decide), fun _ => ⟨h1, ?_⟩⟩
  rw [h8]
  refine ⟨fun c => absurd c (nI_pos (by omega)), fun _ => ⟨na, h2, h4, fun c => absurd c ?_, fun _ => ⟨rfl, rfl⟩⟩⟩
  rw [hn]
  exact fun c => absurd ((nI_ltI h7 h7).mp c) (Nat.lt_irrefl _)
end MXCY
