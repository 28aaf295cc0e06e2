/-! THE HEAP BEHIND BOTH CONSTRUCTORS, written out (p1) -/
section MXM5
variable {g : mxH} {d c s n i k a : Nat} {P : Nat → hcell}
theorem mkH_rI9 {f : Nat → Int32} (ha : a = 128 + i) : hrI (mkH g c s n P) a f = mkH g c s n (oI P i f) := by subst ha; exact mkH_rI
theorem mkH_rL9 {f : Nat → Int64} (ha : a = 128 + i) : hrL (mkH g c s n P) a f = mkH g c s n (oL P i f) := by subst ha; exact mkH_rL
theorem mkH_sI9 {v : Int32} (ha : a = 128 + i) : hsI (mkH g c s n P) a k v = mkH g c s n (oIk P i k v) := by subst ha; exact mkH_sI
theorem hpI_mkH9 (ha : a = 128 + i) : hpI (mkH g c s n P) a = (P i).2.2.1 := by subst ha; exact hpI_mkH
theorem hpL_mkH9 (ha : a = 128 + i) : hpL (mkH g c s n P) a = (P i).2.2.2.1 := by subst ha; exact hpL_mkH
theorem hpR_mkH9 (ha : a = 128 + i) : hpR (mkH g c s n P) a = (P i).2.2.2.2 := by subst ha; exact hpR_mkH
theorem hpK_mkH9 (ha : a = 128 + i) : hpK (mkH g c s n P) a = (P i).1 := by subst ha; exact hpK_mkH
theorem hpZ_mkH9 (ha : a = 128 + i) : hpZ (mkH g c s n P) a = (P i).2.1 := by subst ha; exact hpZ_mkH
theorem mkSR (hK : ∀ i, i < 236 → 192 ≤ i → (P i).1 = srK (128 + i)) (hZ : ∀ i, i < 236 → 193 ≤ i → (P i).2.1 = srZ (128 + i)) (hR : ∀ k, k < 84 → srR k ≠ 0 → (P 192).2.2.2.2 k = some (srR k)) (hL : ∀ k, k < 33 → 13 ≤ k → (P 192).2.2.2.1 k = srL k) : SR (mkH g c s n P) := by
  refine ⟨fun a h1 h2 => ?_, fun a h1 h2 => ?_, fun k h1 h2 => ?_, fun k h1 h2 => ?_⟩
  · rw [hpK_mkH9 (i := a - 128) (by omega), hK (a - 128) (by omega) (by omega)]
    rw [show 128 + (a - 128) = a by omega]
  · rw [hpZ_mkH9 (i := a - 128) (by omega), hZ (a - 128) (by omega) (by omega)]
    rw [show 128 + (a - 128) = a by omega]
  · rw [hpR_mkH9 (i := 192) rfl]; exact hR k h1 h2
  · rw [hpL_mkH9 (i := 192) rfl]; exact hL k h2 h1
def r108 : Nat → hcell := oI r107 223 (qnF 13000)
def r109 : Nat → hcell := oI r108 219 (lowF 400 (-1) (fun _ => 0))
def r110 : Nat → hcell := oIk r109 213 0 1
def r111 : Nat → hcell := oIk r110 192 50 (-1)
def r112 : Nat → hcell := oI r111 226 (lowF 83 0 (r111 226).2.2.1)
def r113 : Nat → hcell := oL r112 227 (lowF 34 0 (r112 227).2.2.2.1)
def r114 : Nat → hcell := oIk r113 226 82 1
def r115 : Nat → hcell := oI r114 226 (segF 36 10 (-1) (r114 226).2.2.1)
def r116 : Nat → hcell := oI r115 216 (lowF 4000 0 (r115 216).2.2.1)
def r117 : Nat → hcell := oIk (oIk (oIk r116 216 0 1) 217 0 0) 218 0 0
def r118 : Nat → hcell := oI r117 226 (segF 36 3 (nI 0) (r117 226).2.2.1)
def r119 : Nat → hcell := oI r118 228 (lowF 184 0 (r118 228).2.2.1)
def r120 : Nat → hcell := oIk r119 192 82 0
theorem r_bg : bgH (mkH g c s n r111) 0 = mkH g c s n r120 := by
  unfold bgH bg1
  rw [hpI_mkH9 (a := 354) (i := 226) rfl, mkH_rI9 (a := 354) (i := 226) rfl]
  show hsI (bg8 (bg7 (hsI (hsI (hsI (bg5 (bg4 (hsI (bg2 (mkH g c s n r112)) 354 82 1))) 344 0 1) 345 0 0) 346 0 0) 0)) 320 82 0 = _
  unfold bg2
  rw [hpL_mkH9 (a := 355) (i := 227) rfl, mkH_rL9 (a := 355) (i := 227) rfl, mkH_sI9 (a := 354) (i := 226) rfl]
  show hsI (bg8 (bg7 (hsI (hsI (hsI (bg5 (bg4 (mkH g c s n r114))) 344 0 1) 345 0 0) 346 0 0) 0)) 320 82 0 = _
  unfold bg4
  rw [hpI_mkH9 (a := 354) (i := 226) rfl, mkH_rI9 (a := 354) (i := 226) rfl]
  show hsI (bg8 (bg7 (hsI (hsI (hsI (bg5 (mkH g c s n r115)) 344 0 1) 345 0 0) 346 0 0) 0)) 320 82 0 = _
  unfold bg5
  rw [hpI_mkH9 (a := 344) (i := 216) rfl, mkH_rI9 (a := 344) (i := 216) rfl, mkH_sI9 (a := 344) (i := 216) rfl, mkH_sI9 (a := 345) (i := 217) rfl, mkH_sI9 (a := 346) (i := 218) rfl]
  show hsI (bg8 (bg7 (mkH g c s n r117) 0)) 320 82 0 = _
  unfold bg7
  rw [hpI_mkH9 (a := 354) (i := 226) rfl, mkH_rI9 (a := 354) (i := 226) rfl]
  show hsI (bg8 (mkH g c s n r118)) 320 82 0 = _
  unfold bg8
  rw [hpI_mkH9 (a := 356) (i := 228) rfl, mkH_rI9 (a := 356) (i := 228) rfl, mkH_sI9 (a := 320) (i := 192) rfl]
  rfl
theorem qnF_0 : qnF 0 = fun _ => 0 := by
  funext q; unfold qnF; rw [if_neg (Nat.not_lt_zero q)]
theorem k_X12_init (hd : 5 ≤ d) : mx_SM mY_X12_init d [.ref (128 + 192)] (mkH g 193 338205 193 r0) (mx_xct (.inl none) (mkH g 236 952453 236 r120)) := by
  have sr : SR (mkH g 236 952453 236 r107) := mkSR r_K r_Z r_R r_L
  have e0 : hrI (mkH g 236 952453 236 r107) 351 (qnF 0) = mkH g 236 952453 236 r107 := hrI_id (by rw [hpI_mkH9 (i := 223) rfl, qnF_0]; rfl)
  have e1 : hrI (mkH g 236 952453 236 r107) 351 (qnF 13000) = mkH g 236 952453 236 r108 := mkH_rI9 (i := 223) rfl
  have sr1 : SR (mkH g 236 952453 236 r108) := by rw [← e1]; exact sr
  have e2 : hrI (mkH g 236 952453 236 r108) 347 (lowF 0 (-1) (fun _ => 0)) = mkH g 236 952453 236 r108 := hrI_id (by rw [hpI_mkH9 (i := 219) rfl, lowF_0]; rfl)
  have e3 : hrI (mkH g 236 952453 236 r108) 347 (lowF 400 (-1) (fun _ => 0)) = mkH g 236 952453 236 r109 := mkH_rI9 (i := 219) rfl
  have sr2 : SR (mkH g 236 952453 236 r109) := by rw [← e3]; exact sr1
  have K3 : mx_SX mY_X12_init d 618 [(0, .ref 320), (1, .int (nI 400))] [] (mkH g 236 952453 236 r109) (mx_xct (.inl none) (mkH g 236 952453 236 r120)) := by
    refine b_X12_init_618 320 _ ⟨fun _ => ⟨sr_k sr2, 341, sr_r54 sr2, sr_k341 sr2, by rw [sr_z341 sr2]; exact vp_in_nI (n := 0) (by omega) (by omega), ?_⟩, fun c => absurd (show nI 400 ≤ nI 400 from nI_le (Nat.le_refl _) (by omega)) c⟩
    rintro _ rfl _ rfl
    rw [show ((1 : Int32) &&& 1) = 1 from rfl, show (0 : Int32).toNatClampNeg = 0 from rfl, mkH_sI9 (a := 341) (i := 213) rfl, mkH_sI9 (a := 320) (i := 192) rfl]
    have e4 : mkH g 236 952453 236 (oIk (oIk r109 213 0 1) 192 50 (-1)) = hsI (hsI (mkH g 236 952453 236 r109) 341 0 1) 320 50 (-1) := by
      rw [mkH_sI9 (a := 341) (i := 213) rfl, mkH_sI9 (a := 320) (i := 192) rfl]
    have sr3 : SR (mkH g 236 952453 236 (oIk (oIk r109 213 0 1) 192 50 (-1))) := by rw [e4]; exact sr2
    refine ⟨by omega, mx_xKV (k_X12_beginsAnew (p := 0) (by omega) sr3 ?_ (by omega)) ⟨rfl, r_bg⟩⟩
    rw [hpI_mkH9 (i := 192) rfl]; rfl
  have K2 := x12_p sr1 (f := fun _ => 0) (by rw [e3]; exact K3) 400 0 rfl
  rw [e2] at K2
  have K1 := x12_q sr (by rw [e1]; exact K2) 13000 0 rfl
  rw [e0] at K1
  exact x12_a hd K1
def rF : Nat → hcell := oN r120 236 15 1
/-- the fresh heap -/
def H0 (g : mxH) : mxH := mkH g 237 952454 237 rF
theorem rF_K : ∀ i, i < 236 → 192 ≤ i → (rF i).1 = srK (128 + i) := by decide +kernel
theorem rF_Z : ∀ i, i < 236 → 193 ≤ i → (rF i).2.1 = srZ (128 + i) := by decide +kernel
theorem rF_R : ∀ k, k < 84 → srR k ≠ 0 → (rF 192).2.2.2.2 k = some (srR k) := by decide +kernel
theorem rF_L : ∀ k, k < 33 → 13 ≤ k → (rF 192).2.2.2.1 k = srL k := by decide +kernel
theorem h0_SR : SR (H0 g) := mkSR rF_K rF_Z rF_R rF_L
theorem rF_scO : ∀ t ∈ scO, 128 ≤ t.1 ∧ (rF (t.1 - 128)).1 = t.2.1 ∧ (rF (t.1 - 128)).2.1 = t.2.2 := by decide +kernel
theorem rF_scF : ∀ t ∈ scF, 128 ≤ t.1 ∧ (rF (t.1 - 128)).2.2.2.2 t.2.1 = some t.2.2 := by decide +kernel
theorem rF_wbO : ∀ w ∈ scW, ∀ t ∈ wbO, (rF (w + t.1 - 128)).1 = t.2.1 ∧ (rF (w + t.1 - 128)).2.1 = t.2.2 := by decide +kernel
theorem rF_wbR : ∀ w ∈ scW, ∀ t ∈ wbR, (rF (w + t.1 - 128)).2.2.2.2 t.2.1 = some (w + t.2.2) := by decide +kernel
theorem rF_sbO : ∀ w ∈ scW, ∀ i, i < 13 → (rF (w + 6 + i - 128)).1 = sbK i ∧ (rF (w + 6 + i - 128)).2.1 = sbZ i := by decide +kernel
theorem rF_sbR : ∀ w ∈ scW, ∀ t ∈ sbR, (rF (w + 6 + t.1 - 128)).2.2.2.2 t.2.1 = some (w + 6 + t.2.2) := by decide +kernel
theorem rF_sbC : ∀ w ∈ scW, 128 ≤ w ∧ w + 20 ≤ 365 ∧ (rF (w + 6 + 8 - 128)).2.2.2.2 0 = some 135 := by decide +kernel
theorem h0_K (h : 128 ≤ a) : hpK (H0 g) a = (rF (a - 128)).1 := hpK_mkH9 (by omega)
theorem h0_Z (h : 128 ≤ a) : hpZ (H0 g) a = (rF (a - 128)).2.1 := hpZ_mkH9 (by omega)
theorem h0_I (h : 128 ≤ a) : hpI (H0 g) a = (rF (a - 128)).2.2.1 := hpI_mkH9 (by omega)
theorem h0_L (h : 128 ≤ a) : hpL (H0 g) a = (rF (a - 128)).2.2.2.1 := hpL_mkH9 (by omega)
theorem h0_R (h : 128 ≤ a) : hpR (H0 g) a = (rF (a - 128)).2.2.2.2 := hpR_mkH9 (by omega)
theorem h0_KJ {i : Nat} : hpK (H0 g) (i + 128) = (rF i).1 := by exact hpK_mkH9 (Nat.add_comm i 128)
theorem h0_ZJ {i : Nat} : hpZ (H0 g) (i + 128) = (rF i).2.1 := by exact hpZ_mkH9 (Nat.add_comm i 128)
theorem h0_IJ {i : Nat} : hpI (H0 g) (i + 128) = (rF i).2.2.1 := by exact hpI_mkH9 (Nat.add_comm i 128)
theorem h0_LJ {i : Nat} : hpL (H0 g) (i + 128) = (rF i).2.2.2.1 := by exact hpL_mkH9 (Nat.add_comm i 128)
theorem h0_RJ {i : Nat} : hpR (H0 g) (i + 128) = (rF i).2.2.2.2 := by exact hpR_mkH9 (Nat.add_comm i 128)
theorem h0_N : hpN (H0 g) = 365 := rfl
theorem h0_WB (w : Nat) (hw : w ∈ scW) : WB (H0 g) w := by
  obtain ⟨b1, b2, b3⟩ := rF_sbC w hw
  refine ⟨b2, fun t ht => ?_, fun t ht => ?_, by show w + 6 + 13 ≤ 365; omega, fun i hi => ?_, fun t ht => ?_, ?_⟩
  · rw [h0_K (by omega), h0_Z (by omega)]; exact rF_wbO w hw t ht
  · rw [h0_R (by omega)]; exact rF_wbR w hw t ht
  · rw [h0_K (by omega), h0_Z (by omega)]; exact rF_sbO w hw i hi
  · rw [h0_R (by omega)]; exact rF_sbR w hw t ht
  · rw [h0_R (by omega)]; exact b3
theorem h0_SC : SC (H0 g) := by
  refine ⟨Nat.le_refl _, fun t ht => ?_, fun t ht => ?_, fun w hw => h0_WB w hw⟩
  · obtain ⟨b1, b2⟩ := rF_scO t ht
    rw [h0_K b1, h0_Z b1]; exact b2
  · obtain ⟨b1, b2⟩ := rF_scF t ht
    rw [h0_R b1]; exact b2
end MXM5
