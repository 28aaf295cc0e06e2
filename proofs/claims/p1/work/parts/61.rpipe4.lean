/-! THE REFERENCE'S PIPES: adding, making -/
section MXPL
variable {d : Nat} {h0 h : mxH} {w : spW} {G : List spE} {V : List (Option (Option Nat))} {P : List spX} {n m xs : Nat} {Q : mxRes → mxH → Prop}
variable {fi la ip qn : Nat → Int32} {qf : Int32} {Qs : Nat → List Nat} {fr : List Nat}
/-- addsTo: the rows behind it -/
def adF (h : mxH) (b q : Nat) (v : Int32) : mxH :=
  let h1 := hsI (hsI (hsI h 320 66 (hpI h 351 q)) 350 q v) 351 q (-1)
  if hpI h 348 b = -1 then hsI (hsI h1 347 b (nI q)) 348 b (nI q) else hsI (hsI h1 351 (hpI h 348 b).toNatClampNeg (nI q)) 348 b (nI q)
theorem k_X12_addsTo_raw (s : SR h) {b q : Nat} {v : Int32} (hb : b < 400) (hq : hpI h 320 66 = nI q) (hq2 : q < 13000) (hl : hpI h 348 b = -1 ∨ ∃ x, hpI h 348 b = nI x ∧ x < 13000) :
    mx_SM mY_X12_addsTo d [.ref 320, .int (nI b), .int v] h (mx_xct (.inl none) (adF h b q v)) := by
  refine b_X12_addsTo 320 _ _ ⟨sr_k s, 351, sr_r65 s, sr_k351 s, ?_⟩
  rw [hq, nI_clamp (n := q) (by omega), nI_clamp (n := b) (by omega)]
  refine ⟨by rw [sr_z351 s]; exact vp_in_nI hq2 (by omega), ?_⟩
  rintro _ rfl
  refine ⟨350, sr_r64 s, sr_k350 s, by show vp_in _ (hpZ h 350); rw [sr_z350 s]; exact vp_in_nI hq2 (by omega), ?_⟩
  rintro _ rfl
  refine ⟨351, sr_r65 s, sr_k351 s, by show vp_in _ (hpZ h 351); rw [sr_z351 s]; exact vp_in_nI hq2 (by omega), ?_⟩
  rintro _ rfl
  refine ⟨348, sr_r62 s, sr_k348 s, by show vp_in _ (hpZ h 348); rw [sr_z348 s]; exact vp_in_nI hb (by omega), ?_⟩
  have e1 : hpI (hsI (hsI (hsI h 320 66 (hpI h 351 q)) 350 q v) 351 q (-1)) 348 b = hpI h 348 b := by rw [hpI_sIo (by decide), hpI_sIo (by decide), hpI_sIo (by decide)]
  rw [e1]
  refine ⟨fun c => ?_, fun c => ?_⟩
  · obtain ⟨x, x1, x2⟩ := hl.resolve_left c
    refine ⟨351, sr_r65 s, sr_k351 s, by show vp_in _ (hpZ h 351); rw [sr_z351 s, x1]; exact vp_in_nI x2 (by omega), ?_⟩
    rintro _ rfl
    refine ⟨348, sr_r62 s, sr_k348 s, by show vp_in _ (hpZ h 348); rw [sr_z348 s]; exact vp_in_nI hb (by omega), ?_⟩
    rintro _ rfl
    exact ⟨rfl, by rw [adF]; exact (if_neg c).symm⟩
  · refine ⟨347, sr_r61 s, sr_k347 s, by show vp_in _ (hpZ h 347); rw [sr_z347 s]; exact vp_in_nI hb (by omega), ?_⟩
    rintro _ rfl
    refine ⟨348, sr_r62 s, sr_k348 s, by show vp_in _ (hpZ h 348); rw [sr_z348 s]; exact vp_in_nI hb (by omega), ?_⟩
    rintro _ rfl
    exact ⟨rfl, by rw [adF]; exact (if_pos c).symm⟩
section
variable {b q : Nat} {v : Int32}
theorem adF_I {a : Nat} (h1 : a ≠ 347) (h2 : a ≠ 348) (h3 : a ≠ 351) (h4 : a ≠ 320) (h5 : a ≠ 350) : hpI (adF h b q v) a = hpI h a := by
  unfold adF
  dsimp only
  split
  · rw [hpI_sIo h2, hpI_sIo h1, hpI_sIo h3, hpI_sIo h5, hpI_sIo h4]
  · rw [hpI_sIo h2, hpI_sIo h3, hpI_sIo h3, hpI_sIo h5, hpI_sIo h4]
theorem adF_350 : hpI (adF h b q v) 350 = fup (hpI h 350) q v := by
  unfold adF
  dsimp only
  split
  · rw [hpI_sIo (by decide), hpI_sIo (by decide), hpI_sIo (by decide), hpI_sIs, hpI_sIo (by decide)]
  · rw [hpI_sIo (by decide), hpI_sIo (by decide), hpI_sIo (by decide), hpI_sIs, hpI_sIo (by decide)]
theorem adF_347 : hpI (adF h b q v) 347 = if hpI h 348 b = -1 then fup (hpI h 347) b (nI q) else hpI h 347 := by
  unfold adF
  dsimp only
  split
  · rw [hpI_sIo (by decide), hpI_sIs, hpI_sIo (by decide), hpI_sIo (by decide), hpI_sIo (by decide)]
  · rw [hpI_sIo (by decide), hpI_sIo (by decide), hpI_sIo (by decide), hpI_sIo (by decide), hpI_sIo (by decide)]
theorem adF_348 : hpI (adF h b q v) 348 = fup (hpI h 348) b (nI q) := by
  unfold adF
  dsimp only
  split
  · rw [hpI_sIs, hpI_sIo (by decide), hpI_sIo (by decide), hpI_sIo (by decide), hpI_sIo (by decide)]
  · rw [hpI_sIs, hpI_sIo (by decide), hpI_sIo (by decide), hpI_sIo (by decide), hpI_sIo (by decide)]
theorem adF_351 : hpI (adF h b q v) 351 = if hpI h 348 b = -1 then fup (hpI h 351) q (-1) else fup (fup (hpI h 351) q (-1)) (hpI h 348 b).toNatClampNeg (nI q) := by
  unfold adF
  dsimp only
  split
  · rw [hpI_sIo (by decide), hpI_sIo (by decide), hpI_sIs, hpI_sIo (by decide), hpI_sIo (by decide)]
  · rw [hpI_sIo (by decide), hpI_sIs, hpI_sIs, hpI_sIo (by decide), hpI_sIo (by decide)]
theorem adF_66 : hpI (adF h b q v) 320 66 = hpI h 351 q := by
  unfold adF
  dsimp only
  split
  · rw [hpI_sIo (by decide), hpI_sIo (by decide), hpI_sIo (by decide), hpI_sIo (by decide), hpI_sIs, fup_e]
  · rw [hpI_sIo (by decide), hpI_sIo (by decide), hpI_sIo (by decide), hpI_sIo (by decide), hpI_sIs, fup_e]
theorem adF_F {k : Nat} (hk : k ≠ 66) : hpI (adF h b q v) 320 k = hpI h 320 k := by
  unfold adF
  dsimp only
  split
  · rw [hpI_sIo (by decide), hpI_sIo (by decide), hpI_sIo (by decide), hpI_sIo (by decide), hpI_sIs, fup_n hk]
  · rw [hpI_sIo (by decide), hpI_sIo (by decide), hpI_sIo (by decide), hpI_sIo (by decide), hpI_sIs, fup_n hk]
theorem adF_SR (s : SR h) : SR (adF h b q v) := by
  unfold adF
  dsimp only
  split <;> exact s
theorem adF_L : hpL (adF h b q v) = hpL h := by
  unfold adF
  dsimp only
  split <;> rfl
theorem adF_RLn : RLn (adF h b q v) = RLn h := by
  show RLr (hpI (adF h b q v) 339) (hpI (adF h b q v) 340) (hpI (adF h b q v) 341) = _
  rw [adF_I (by decide) (by decide) (by decide) (by decide) (by decide), adF_I (by decide) (by decide) (by decide) (by decide) (by decide), adF_I (by decide) (by decide) (by decide) (by decide) (by decide)]
theorem adF_Fr (r : Fr h0 h) : Fr h0 (adF h b q v) := by
  have r3 := ((r.sF (k := 66) (v := hpI h 351 q) rfl).rI (a := 350) (f := fup (hpI (hsI h 320 66 (hpI h 351 q)) 350) q v) rfl).rI (a := 351) (f := fup (hpI (hsI (hsI h 320 66 (hpI h 351 q)) 350 q v) 351) q (-1)) rfl
  unfold adF
  dsimp only
  split
  · exact (r3.rI (a := 347) rfl).rI rfl
  · exact (r3.rI (a := 351) rfl).rI rfl
end
theorem RPs.add {b q : Nat} {fr' : List Nat} (r : RPs fi la ip qn qf Qs (q :: fr')) (hb : b < 400) (hi : ip b = 1) :
    RPs (if la b = -1 then fup fi b (nI q) else fi) (fup la b (nI q)) ip (if la b = -1 then fup qn q (-1) else fup (fup qn q (-1)) (la b).toNatClampNeg (nI q)) (qn q) (fup Qs b (Qs b ++ [q])) fr' := by
  obtain ⟨⟨-, f2, f3⟩, c2, c3, ⟨n1, n2, n3, n4⟩, c5⟩ := r
  obtain ⟨nq, nfr⟩ := List.nodup_cons.mp n1
  have qQ : ∀ c, q ∉ Qs c := fun c hm => n3 c q hm List.mem_cons_self
  have last : la b = -1 ∧ Qs b = [] ∨ ∃ x, la b = nI x ∧ (Qs b).getLast? = some x ∧ x < 13000 ∧ x ∈ Qs b := by
    cases e : (Qs b).getLast? with
    | none =>
      have : Qs b = [] := List.getLast?_eq_none_iff.mp e
      exact Or.inl ⟨(c2 b hb).2.1 this, this⟩
    | some x =>
      have hm := List.mem_of_getLast? e
      refine Or.inr ⟨x, (c2 b hb).2.2.1 x e, rfl, ?_, hm⟩
      have : ∀ (l : List Nat) (v : Int32), RQ qn v l → x ∈ l → x < 13000 := fun l => by
        induction l with
        | nil => intro v _ h; cases h
        | cons y l ih =>
          intro v r h
          rcases List.mem_cons.mp h with rfl | h
          · exact r.2.1
          · exact ih _ r.2.2 h
      exact this _ _ (c2 b hb).1 hm
  have fr0 : RQ (fup qn q (-1)) (qn q) fr' := RQ.up nq f3
  have mem : ∀ c x, x ∈ fup Qs b (Qs b ++ [q]) c ↔ x ∈ Qs c ∨ (c = b ∧ x = q) := fun c x => by
    by_cases e : c = b
    · subst e; rw [fup_e]; simp
    · rw [fup_n e]; simp [e]
  have gl : ∀ x, (fup Qs b (Qs b ++ [q]) b).getLast? = some x → x = q := fun x hx => by
    rw [fup_e] at hx; simpa using hx.symm
  rcases last with ⟨l1, l2⟩ | ⟨x, l1, l2, l3, l4⟩
  · rw [if_pos l1, if_pos l1]
    refine ⟨fr0, fun c hc => ?_, fun c hc => ?_, ⟨nfr, fun c => ?_, fun c y hy hm => ?_, fun c e y hne hy hy2 => ?_⟩, fun y hy => ?_⟩
    · by_cases e : c = b
      · subst e
        rw [fup_e, fup_e]
        refine ⟨?_, fun e => ?_, fun y hy => by rw [fup_e, gl y (by rw [fup_e]; exact hy)], fun e => ?_⟩
        · rw [l2]; exact ⟨rfl, f2, by rw [fup_e]; rfl⟩
        · simp at e
        · rw [hi] at e; cases e
      · rw [fup_n e, fup_n e, fup_n e]
        obtain ⟨z1, z2⟩ := c2 c hc
        exact ⟨RQ.up (qQ c) z1, z2⟩
    · rw [fup_n (by omega)]; exact c3 c hc
    · by_cases e : c = b
      · subst e; rw [fup_e, l2]; simp
      · rw [fup_n e]; exact n2 c
    · rcases (mem c y).mp hy with g | ⟨-, g⟩
      · exact n3 c y g (List.mem_cons_of_mem _ hm)
      · subst g; exact nq hm
    · rcases (mem c y).mp hy with g | ⟨g1, g⟩
      · rcases (mem e y).mp hy2 with g' | ⟨-, g'⟩
        · exact n4 c e y hne g g'
        · subst g'; exact qQ c g
      · subst g
        rcases (mem e y).mp hy2 with g' | ⟨g', -⟩
        · exact qQ e g'
        · exact hne (g1.trans g'.symm)
    · rcases c5 y hy with g | ⟨c, g1, g2⟩
      · rcases List.mem_cons.mp g with rfl | g
        · exact Or.inr ⟨b, hb, (mem b y).mpr (Or.inr ⟨rfl, rfl⟩)⟩
        · exact Or.inl g
      · exact Or.inr ⟨c, g1, (mem c y).mpr (Or.inl g2)⟩
  · have l1' : la b ≠ -1 := fun e => by rw [l1] at e; exact (nI_neg1 (by omega)).mp e
    rw [if_neg l1', if_neg l1', l1, nI_clamp (by omega)]
    have xq : x ≠ q := fun e => qQ b (e ▸ l4)
    refine ⟨RQ.up (fun hm => n3 b x l4 (List.mem_cons_of_mem _ hm)) fr0, fun c hc => ?_, fun c hc => ?_, ⟨nfr, fun c => ?_, fun c y hy hm => ?_, fun c e y hne hy hy2 => ?_⟩, fun y hy => ?_⟩
    · by_cases e : c = b
      · subst e
        rw [fup_e, fup_e]
        refine ⟨?_, fun e => ?_, fun y hy => by rw [gl y (by rw [fup_e]; exact hy)], fun e => ?_⟩
        · exact RQ.snoc f2 fup_e (qQ c) (n2 c) l2 (RQ.up (qQ c) (c2 c hc).1)
        · simp at e
        · rw [hi] at e; cases e
      · rw [fup_n e, fup_n e]
        obtain ⟨z1, z2⟩ := c2 c hc
        exact ⟨RQ.up (fun hm => n4 c b x e hm l4) (RQ.up (qQ c) z1), z2⟩
    · rw [fup_n (by omega)]; exact c3 c hc
    · by_cases e : c = b
      · subst e; rw [fup_e]
        exact List.nodup_append.mpr ⟨n2 c, by simp, fun a ha b hb => fun e => by rw [List.mem_singleton.mp hb] at e; exact qQ c (e ▸ ha)⟩
      · rw [fup_n e]; exact n2 c
    · rcases (mem c y).mp hy with g | ⟨-, g⟩
      · exact n3 c y g (List.mem_cons_of_mem _ hm)
      · subst g; exact nq hm
    · rcases (mem c y).mp hy with g | ⟨g1, g⟩
      · rcases (mem e y).mp hy2 with g' | ⟨-, g'⟩
        · exact n4 c e y hne g g'
        · subst g'; exact qQ c g
      · subst g
        rcases (mem e y).mp hy2 with g' | ⟨g', -⟩
        · exact qQ e g'
        · exact hne (g1.trans g'.symm)
    · rcases c5 y hy with g | ⟨c, g1, g2⟩
      · rcases List.mem_cons.mp g with rfl | g
        · exact Or.inr ⟨b, hb, (mem b y).mpr (Or.inr ⟨rfl, rfl⟩)⟩
        · exact Or.inl g
      · exact Or.inr ⟨c, g1, (mem c y).mpr (Or.inl g2)⟩
end MXPL
