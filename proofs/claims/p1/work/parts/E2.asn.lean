/-! Commands.assign -/
section MXSN
variable {h h1 h2 : mxH} {d x g c n : Nat} {D : pmC} {F : spF} {nc na : Nat} {fa fd : Nat → Nat}
theorem CU_cg {n : Nat} (c : CU h n) (e : ∀ b, 131 ≤ b → b ≤ 134 → hpI h1 b = hpI h b) : CU h1 n := by
  unfold CU at c ⊢
  rw [e 131 (by decide) (by decide), e 133 (by decide) (by decide), e 134 (by decide) (by decide)]
  exact c
/-- a line was made and given to a variable, or there is no place for it -/
def AsE (D : pmC) (x n : Nat) (F : spF) (nm : Int64) (l : spL) (h : mxH) (r : mxRes) (h1 : mxH) : Prop := ∃ hA hB v, ExI pTX h hA ∧ MkD hA hB n v l ∧
  ((asgn F nm l = none ∧ r = .inl (some (.int 1)) ∧ h1 = hB) ∨ ∃ F1, asgn F nm l = some F1 ∧ r = .inl (some (.int 0)) ∧ h1 = tb_put hB (x + 1) (x + 2) (x + 3) (fV F).length nm v ∧ CF D (CLn hB) h1 x F1)
theorem k_X1_assign (hd : 4 ≤ d) (a : AC h g x D nc na fa fd F) (hxx : x = 146 ∨ 365 ≤ x) (hc : c < nc) (cu : CU h n) (hn : n < 3199) : mx_SM mY_X1_assign d [.ref 283, .ref g, .ref x, .int (nI c)] h (AsE D x n F (kNm D c) ((((kAr D c).map (evA F)).getD 0 []).take 80) h) := by
  refine b_X1_assign 283 g x (nI c) ⟨sc_k283 a.1, ?_⟩
  rintro _ rfl
  have e0 : ExI pTX h (hsI h 283 4 0) := ExI.rf.I (Or.inl rfl)
  have aH := a.ex e0
  have len := aH.len hc 0
  obtain ⟨v, k1, k2⟩ := aH.one (d := d - 1) (idx := 0) (c := c) (by omega) (TX.nil (by rw [hpI_sI, if_pos rfl, if_pos rfl])) hc (by omega)
  refine ⟨by omega, (a.1.pb a.2.2.2.1).1, mx_xKI2 k1 ⟨sc_k283 a.1, k2.mono ?_⟩⟩
  rintro r h3 ⟨rfl, e3, t3⟩
  rw [List.nil_append, List.take_of_length_le len] at t3
  have a3 := aH.ex e3
  have ex : ExI pTX h h3 := e0.tr e3
  have s3 := a3.1
  have x3 := a3.2.1
  have b3 := s3.pb a3.2.2.2.1
  have cu3 : CU h3 n := CU_cg cu (fun b h1 h2 => ex.2.2.2.2.2.2.2 b (fun c => by rcases c with c | c <;> omega))
  refine Or.inl ⟨rfl, x3.k0, x + 1, x3.r0_0, b3.1, mx_xKL2 (p_nameOf (by omega) b3 a3.2.2.2.2.1 hc) ⟨sc_k283 s3, 131, sc_r283_2 s3, 284, sc_r283_3 s3, sc_k131 s3, ?_⟩⟩
  rw [t3.1]
  refine (k_X3_make (d := d - 1) (st := 0) (l := ((kAr D c).map (evA F)).getD 0 []) (by omega) s3 cu3 hn (sc_k284 s3) (by rw [sc_z284 s3]; decide) (by rw [sc_z284 s3]; omega) (fun k hk => by rw [Nat.zero_add]; exact t3.2.2 k hk)).mono ?_
  rintro r hB ⟨v, rfl, mk⟩
  have xB := x3.fp mk.1.fp
  have cfB : CF D (CLn hB) hB x F := a3.2.2.2.2.2.1.cg (fun i hi => mk.1.2.2.2.2.2.2.2 (x + i) (fun c => by have := c.1; have := c.2; omega)) (fun i hi => by rw [mk.1.2.2.2.2.2.1]) mk.2.2.2
  have tB := xB.tv cfB.1.1 cfB.1.2.1
  refine Or.inl ⟨v, rfl, xB.k1, ?_⟩
  rcases ea : asgn F (kNm D c) ((((kAr D c).map (evA F)).getD 0 []).take 80) with _ | F1
  · obtain ⟨l20, ix⟩ := asgn_no cfB ea
    refine mx_xKI2 (k_X9_put_no (by omega) tB (by rw [xB.z2]; exact l20) ix) ⟨fun _ => ⟨h3, hB, v, ex, mk, Or.inl ⟨ea, rfl, rfl⟩⟩, fun c => absurd rfl c⟩
  · obtain ⟨cf1, room⟩ := cfB.put mk.2.2.1 ea
    refine mx_xKI2 (k_X9_put (by omega) tB (by rw [xB.z2]; exact room)) ⟨fun c => absurd c (by decide), fun _ => ⟨h3, hB, v, ex, mk, Or.inr ⟨F1, ea, rfl, rfl, cf1⟩⟩⟩
end MXSN
