/-! Handles.copyApart -/
section MXJ2A
variable {h h1 h2 h3 : mxH} {d sl s2 x x2 i n : Nat} {RS : List Nat} {f : Nat → Option Nat}
theorem hd_first_le : ∀ m j, j + m = i → j ≤ hd_first f i m j ∧ hd_first f i m j ≤ i ∧ (hd_first f i m j < i → f (hd_first f i m j) = f i) ∧ (∀ k, j ≤ k → k < hd_first f i m j → f k ≠ f i)
  | 0, j, e => ⟨by show j ≤ i; omega, Nat.le_refl i, fun c => absurd c (Nat.lt_irrefl i), fun k h1 h2 => by have h2 : k < i := h2; omega⟩
  | m + 1, j, e => by
    unfold hd_first
    by_cases c : f j = f i
    · rw [if_pos c]
      exact ⟨Nat.le_refl _, by omega, fun _ => c, fun k h1 h2 => by omega⟩
    · rw [if_neg c]
      obtain ⟨a1, a2, a3, a4⟩ := hd_first_le m (j + 1) (by omega)
      refine ⟨by omega, a2, a3, fun k h1 h2 => ?_⟩
      rcases Nat.eq_or_lt_of_le h1 with e | e
      · rw [← e]; exact c
      · exact a4 k e h2
/-- open files come and go -/
def FrW (h h1 : mxH) : Prop := FP h h1 ∧ hpC h1 + hpN h = hpC h + hpN h1 ∧ hpS h1 + 6 * hpN h = hpS h + 6 * hpN h1 ∧ (∀ b, b < hpN h → hpK h b ≠ 5 → hpI h1 b = hpI h b ∧ hpL h1 b = hpL h b) ∧ (∀ b k, b < hpN h → hpK h b ≠ 5 → hpK h b ≠ 18 → (b ≠ 135 ∨ k ≠ 0) → hpR h1 b k = hpR h b k) ∧ (∀ b, hpN h ≤ b → b < hpN h1 → hpK h1 b = 5)
theorem FrW.rf : FrW h h := ⟨FP.rf, rfl, rfl, fun _ _ _ => ⟨rfl, rfl⟩, fun _ _ _ _ _ _ => rfl, fun b h1 h2 => by omega⟩
theorem FrW.tr (a : FrW h h1) (b : FrW h1 h2) : FrW h h2 := by
  obtain ⟨a1, a2, a3, a4, a5, a6⟩ := a
  obtain ⟨b1, b2, b3, b4, b5, b6⟩ := b
  have n1 := a1.1
  have n2 := b1.1
  have kk : ∀ b, b < hpN h → hpK h1 b = hpK h b := fun b hb => (a1.2 b hb).1
  refine ⟨a1.tr b1, by omega, by omega, fun b hb hk => ?_, fun b k hb h5 h18 h135 => ?_, fun b q1 q2 => ?_⟩
  · have := b4 b (by omega) (by rw [kk b hb]; exact hk)
    exact ⟨this.1.trans (a4 b hb hk).1, this.2.trans (a4 b hb hk).2⟩
  · exact (b5 b k (by omega) (by rw [kk b hb]; exact h5) (by rw [kk b hb]; exact h18) h135).trans (a5 b k hb h5 h18 h135)
  · by_cases c : b < hpN h1
    · rw [(b1.2 b c).1]; exact a6 b q1 c
    · exact b6 b (by omega) q2
theorem FrO.w (f : FrO h h1) (k0 : hpK h 135 = 0) : FrW h h1 := by
  have fp := f.fp k0
  obtain ⟨eN, eC, eS, eK, eZ, eL, eI, eR⟩ := f
  exact ⟨fp, by omega, by omega, fun b _ hk => ⟨by funext k; exact eI b k (Or.inl hk), by rw [eL]⟩, fun b k _ h5 h18 h135 => eR b k h18 (Or.inl h5) h135, fun b h1 h2 => by omega⟩
theorem FrN.w {o : Nat} (f : FrN h h1 o) (k5 : mx_kd h1 o 5) : FrW h h1 := by
  obtain ⟨fN, fC, fS, fL, fp, fI, fR⟩ := f
  have on : ∀ b, b < hpN h → hpK h b ≠ 5 → b ≠ o := fun b hb hk c => by
    have := (fp.2 b hb).1
    rw [c, k5.2] at this
    exact hk (by rw [c, ← this])
  refine ⟨fp, fC, fS, fun b hb hk => ⟨by funext k; exact fI b k (on b hb hk), ?_⟩, fun b k hb h5 _ h135 => fR b k (on b hb h5) h135, fun b q1 q2 => ?_⟩
  · rw [fL]
    split
    · rfl
    · exact fup_n (on b hb hk)
  · rcases fN with c | ⟨c, c'⟩
    · omega
    · have : b = o := by omega
      rw [this]; exact k5.2
/-- the open files, few enough -/
def OSq (h : mxH) (RS : List Nat) : Prop := ∃ OS : List Nat, OS.Nodup ∧ (∀ o, o ∈ OS ↔ mx_kd h o 5) ∧ OS.length ≤ 10 * RS.length + 2
theorem OSq.keep (eN : hpN h1 = hpN h) (eK : hpK h1 = hpK h) (q : OSq h RS) : OSq h1 RS := by
  obtain ⟨OS, n1, n2, n3⟩ := q
  refine ⟨OS, n1, fun o => ?_, n3⟩
  unfold mx_kd
  rw [eN, eK]
  exact n2 o
theorem OSq.new {o : Nat} (oi : OI h RS []) (q : OSq h RS) (f : FrN h h1 o) (kd1 : mx_kd h1 o 5) (grow : hpN h1 ≠ hpN h → hpR h 135 0 = none) : OSq h1 RS := by
  obtain ⟨OS, n1, n2, n3⟩ := q
  obtain ⟨fN, -, -, -, fp, -, -⟩ := f
  have k5 : ∀ o', o' ≠ o → (mx_kd h1 o' 5 ↔ mx_kd h o' 5) := fun o' ne => by
    refine ⟨fun m => ?_, fun m => fp.kd m⟩
    have lt : o' < hpN h := by
      have := m.1
      rcases fN with c | ⟨c, c'⟩ <;> omega
    exact ⟨lt, by rw [← (fp.2 o' lt).1]; exact m.2⟩
  by_cases c : hpN h1 = hpN h
  · refine ⟨OS, n1, fun o' => ?_, n3⟩
    by_cases e : o' = o
    · subst e
      have lt : o' < hpN h := by have := kd1.1; omega
      exact ⟨fun _ => kd1, fun _ => (n2 o').mpr ⟨lt, by rw [← (fp.2 o' lt).1]; exact kd1.2⟩⟩
    · rw [k5 o' e]; exact n2 o'
  · obtain ⟨eo, eN⟩ := fN.resolve_left c
    have l1 := OI.cnt oi (grow c) n1 n2
    have no : o ∉ OS := fun m => by have := ((n2 o).mp m).1; omega
    refine ⟨o :: OS, List.nodup_cons.mpr ⟨no, n1⟩, fun o' => ?_, by rw [List.length_cons]; omega⟩
    by_cases e : o' = o
    · subst e
      exact ⟨fun _ => kd1, fun _ => List.mem_cons_self⟩
    · rw [k5 o' e, List.mem_cons]
      exact ⟨fun m => (n2 o').mp (m.resolve_left e), fun m => Or.inr ((n2 o').mpr m)⟩
/-- the row sl is copied from the row s2 up to i, with open files of its own -/
def CaJ (h : mxH) (RS : List Nat) (sl s2 i : Nat) (h' : mxH) : Prop := FrW h h' ∧ (∀ a ∈ RS, a ≠ sl → ∀ k, k < 10 → hpR h' a k = hpR h a k) ∧
  (∀ k, k < i → (hpR h s2 k = none → hpR h' sl k = none) ∧ ∀ b, hpR h s2 k = some b → ∃ o, hpR h' sl k = some o ∧ mx_kd h' o 5 ∧ (∀ c, c < 4 → hpI h' o c = hpI h b c) ∧ ∀ a ∈ RS, a ≠ sl → ∀ k', k' < 10 → hpR h a k' ≠ some o) ∧
  (∀ j k, j < i → k < i → (hpR h s2 j = hpR h s2 k ↔ hpR h' sl j = hpR h' sl k)) ∧
  (∀ a ∈ RS, a ≠ sl → ∀ k, k < 10 → ∀ o, hpR h a k = some o → ∀ c, c < 4 → hpI h' o c = hpI h o c) ∧ OSq h' RS
theorem CaJ.put {h' h1 : mxH} {new : Option Nat} (c : CaJ h RS sl s2 i h') (hs : sl ∈ RS) (hi : i < 10) (k0 : hpK h' 135 = 0) (fr : FrO h' h1) (rp : Rput h' h1 RS sl i new) (n1 : hpR h s2 i = none → new = none) (n2 : ∀ b, hpR h s2 i = some b → ∃ o, new = some o ∧ mx_kd h' o 5 ∧ (∀ c, c < 4 → hpI h' o c = hpI h b c) ∧ ∀ a ∈ RS, a ≠ sl → ∀ k', k' < 10 → hpR h a k' ≠ some o)
    (n3 : ∀ j, j < i → (hpR h s2 j = hpR h s2 i ↔ hpR h' sl j = new)) : CaJ h RS sl s2 (i + 1) h1 := by
  obtain ⟨c2, c3, c4, c5, c6, c7⟩ := c
  have fw := fr.w k0
  have cell : ∀ o c, c < 4 → hpI h1 o c = hpI h' o c := fun o c hc => fr.2.2.2.2.2.2.1 o c (Or.inr (by omega))
  have r1 : ∀ k, k < 10 → k ≠ i → hpR h1 sl k = hpR h' sl k := fun k hk hne => by rw [rp sl hs k hk, if_neg (fun q => hne q.2)]
  have r2 : hpR h1 sl i = new := by rw [rp sl hs i hi, if_pos ⟨rfl, rfl⟩]
  refine ⟨c2.tr fw, fun a ha hne k hk => by rw [rp a ha k hk, if_neg (fun q => hne q.1)]; exact c3 a ha hne k hk, fun k hk => ?_, fun j k hj hk => ?_, fun a ha hne k hk o ho c hc => by rw [cell o c hc]; exact c6 a ha hne k hk o ho c hc, c7.keep fr.1 fr.2.2.2.1⟩
  · by_cases e : k = i
    · subst e
      rw [r2]
      refine ⟨n1, fun b hb => ?_⟩
      obtain ⟨o, o1, o2, o3, o4⟩ := n2 b hb
      exact ⟨o, o1, fw.1.kd o2, fun c hc => by rw [cell o c hc]; exact o3 c hc, o4⟩
    · rw [r1 k (by omega) e]
      refine ⟨(c4 k (by omega)).1, fun b hb => ?_⟩
      obtain ⟨o, o1, o2, o3, o4⟩ := (c4 k (by omega)).2 b hb
      exact ⟨o, o1, fw.1.kd o2, fun c hc => by rw [cell o c hc]; exact o3 c hc, o4⟩
  · by_cases ej : j = i
    · subst ej
      by_cases ek : k = j
      · subst ek; exact ⟨fun _ => rfl, fun _ => rfl⟩
      · rw [r2, r1 k (by omega) ek]
        have := n3 k (by omega)
        exact ⟨fun q => (this.mp q.symm).symm, fun q => (this.mpr q.symm).symm⟩
    · by_cases ek : k = i
      · subst ek
        rw [r2, r1 j (by omega) ej]
        exact n3 j (by omega)
      · rw [r1 j (by omega) ej, r1 k (by omega) ek]
        exact c5 j k (by omega) (by omega)
/-- an open file is made that nobody names yet -/
theorem CaJ.opn {h' h1 : mxH} {o : Nat} (c : CaJ h RS sl s2 i h') (hs : sl ∈ RS) (hi : i ≤ 10) (fw : FrW h' h1) (rr : ∀ a ∈ RS, ∀ k, k < 10 → hpR h1 a k = hpR h' a k) (fI : ∀ a k, a ≠ o → hpI h1 a k = hpI h' a k) (no : ∀ a ∈ RS, ∀ k, k < 10 → hpR h' a k ≠ some o) (os : OSq h' RS → OSq h1 RS) : CaJ h RS sl s2 i h1 := by
  obtain ⟨c2, c3, c4, c5, c6, c7⟩ := c
  refine ⟨c2.tr fw, fun a ha ne k hk => by rw [rr a ha k hk]; exact c3 a ha ne k hk, fun k hk => ?_, fun j k hj hk => by rw [rr sl hs j (by omega), rr sl hs k (by omega)]; exact c5 j k hj hk, fun a ha ne k hk o' ho c hc => ?_, os c7⟩
  · rw [rr sl hs k (by omega)]
    refine ⟨(c4 k hk).1, fun b hb => ?_⟩
    obtain ⟨o', o1, o2, o3, o4⟩ := (c4 k hk).2 b hb
    have n : o' ≠ o := fun e => no sl hs k (by omega) (by rw [← e]; exact o1)
    exact ⟨o', o1, fw.1.kd o2, fun c hc => by rw [fI o' c n]; exact o3 c hc, o4⟩
  · have n : o' ≠ o := fun e => no a ha k hk (by rw [c3 a ha ne k hk, ← e]; exact ho)
    rw [fI o' c n]; exact c6 a ha ne k hk o' ho c hc
theorem c_copyApart2 (hd : 3 ≤ d) (hx : hd_at h x 135 sl) (hx2 : hd_at h x2 135 s2) (hs : sl ∈ RS) (h2s : s2 ∈ RS) (ne : sl ≠ s2) (hN : 135 < hpN h ∧ x < hpN h ∧ x2 < hpN h ∧ ∀ o, mx_kd h o 5 → 128 ≤ o) : ∀ q i (h' : mxH), i + q = 10 → OI h' RS [] → CaJ h RS sl s2 i h' →
    mx_SX mY_X2_copyApart d 2 [(0, .ref x), (1, .ref x2), (2, .int (nI i))] [] h' (fun r h1 => r = .inl none ∧ OI h1 RS [] ∧ CaJ h RS sl s2 10 h1) := by
  intro q
  induction q with
  | zero =>
    intro i h' hi c1 c
    obtain rfl : i = 10 := by omega
    exact b_X2_copyApart_2 x x2 _ ⟨fun _ => ⟨rfl, c1, c⟩, fun c => absurd (show (10 : Int32) ≤ nI 10 from (nI_leI (by decide) (by decide)).mpr (Nat.le_refl _)) c⟩
  | succ q ih =>
    intro i h' hi c1 c
    have hi10 : i < 10 := by omega
    have c0 := c
    obtain ⟨c2, c3, c4, c5, c6, c7⟩ := c0
    have fp := c2.1
    have up : ∀ {y s : Nat}, y < hpN h → s ∈ RS → hd_at h y 135 s → hd_at h' y 135 s := fun {y s} hy hsr q => by
      obtain ⟨a1, a2, a3, a4, a5, a6⟩ := q
      have f1 := fp.2 y hy
      have f3 := fp.2 135 hN.1
      have r := c1.2.2.1 s hsr
      exact ⟨by rw [f1.1]; exact a1, by rw [f1.2.2 0 (by rw [a1]; decide)]; exact a2, by rw [f1.2.2 1 (by rw [a1]; decide)]; exact a3, by rw [f3.1]; exact a4, r.1.2, r.2.1⟩
    have hx' := up hN.2.1 hs hx
    have hx2' := up hN.2.2.1 h2s hx2
    have k0 := hx'.2.2.2.1
    have src : ∀ k, k < 10 → hpR h' s2 k = hpR h s2 k := fun k hk => c3 s2 h2s (fun e => ne e.symm) k hk
    have row2 := (c1.2.2.1 s2 h2s).2.2
    have nx : ∀ {h1 : mxH}, OI h1 RS [] → CaJ h RS sl s2 (i + 1) h1 → mx_SX mY_X2_copyApart d 84 [(0, .ref x), (1, .ref x2), (2, .int (nI i))] [] h1 (fun r h1 => r = .inl none ∧ OI h1 RS [] ∧ CaJ h RS sl s2 10 h1) := fun {h1} o' c' => by
      refine b_X2_copyApart_84 x x2 _ ?_
      rw [nI_1]
      exact ih (i + 1) h1 (by omega) o' c'
    have o128 : ∀ j, j < 10 → ∀ b, hpR h' s2 j = some b → 128 ≤ b := fun j hj b e => by
      have q := row2 j hj b e
      by_cases lt : b < hpN h
      · exact hN.2.2.2 b ⟨lt, by rw [← (fp.2 b lt).1]; exact q.2⟩
      · have := hN.1; omega
    obtain ⟨f1, f2, f3, f4⟩ := hd_first_le (f := hpR h' s2) (i := i) i 0 (Nat.zero_add i)
    refine b_X2_copyApart_2 x x2 _ ⟨fun c => absurd c (show ¬ nI 10 ≤ nI i from nI_ge hi10 (by omega)), fun _ => ⟨hx2'.1, s2, hx2'.2.2.1, hx2'.2.2.2.2.1, by rw [hx2'.2.2.2.2.2]; exact vp_in_nI hi10 (by decide), by omega, mx_xKI2 (k_X2_firstSharer hx2' hi10 o128) ?_⟩⟩
    rw [nI_clamp (show i < 2 ^ 31 by omega)]
    refine ⟨fun en => ⟨hx'.1, (c_X2_put (d := d - 1) (new := none) c1 hx' hs hi10 (fun b e => nomatch e) (fun b e => nomatch e)).mono ?_⟩, fun b eb => ?_⟩
    · rw [src i hi10] at en
      rintro r h1 (⟨rfl, oi, fr, rp⟩ | ⟨_, _, z⟩)
      · refine Or.inl ⟨rfl, nx oi (c.put hs hi10 k0 fr rp (fun _ => rfl) (fun b e => by rw [en] at e; exact nomatch e) (fun j hj => ?_))⟩
        rw [en]
        refine ⟨fun e => (c4 j hj).1 e, fun e => ?_⟩
        rcases ej : hpR h s2 j with _ | b
        · rfl
        · obtain ⟨o, o1, -⟩ := (c4 j hj).2 b ej
          rw [e] at o1; exact nomatch o1
      · exact z.elim
    · have ei : hpR h s2 i = some b := by rw [← src i hi10]; exact eb
      have kb := row2 i hi10 b eb
      have cb : ∀ c, c < 4 → hpI h' b c = hpI h b c := fun c hc => c6 s2 h2s (fun e => ne e.symm) i hi10 b ei c hc
      refine ⟨fun le => ?_, fun nle => ?_⟩
      · have fe : hd_first (hpR h' s2) i i 0 = i := by
          have := (nI_leI (by omega) (by omega)).mp le
          omega
        refine ⟨hx'.1, 135, hx'.2.1, kb.2, k0, (c_X0_open (d := d - 1) (by omega) c1 ⟨Nat.lt_of_lt_of_le hN.1 fp.1, k0⟩).mono ?_⟩
        rintro r h1 (⟨v, rfl, o, rfl, oi1, fr, rc0, -, kd1, e0, e1, e2, e3, grow⟩ | ⟨_, _, z⟩)
        · have fw := FrN.w fr kd1
          have no : ∀ a ∈ RS, ∀ k, k < 10 → hpR h' a k ≠ some o := fun a ha k hk e => by
            have := rcnt_pos RS ha hk e
            omega
          have rr : ∀ a ∈ RS, ∀ k, k < 10 → hpR h1 a k = hpR h' a k := fun a ha k hk => by
            have q := (c1.2.2.1 a ha).1
            refine fr.2.2.2.2.2.2 a k (fun e => ?_) (Or.inl fun e => ?_)
            · have q2 := (fw.1.2 a q.1).1
              rw [q.2, e, kd1.2] at q2
              exact absurd q2 (by decide)
            · have := q.2
              rw [e, k0] at this
              exact absurd this (by decide)
          have cj := c.opn hs (by omega) fw rr fr.2.2.2.2.2.1 no (fun z => z.new c1 fr kd1 grow)
          have f135 := fw.1.2 135 (Nat.lt_of_lt_of_le hN.1 fp.1)
          have k01 : hpK h1 135 = 0 := by rw [f135.1]; exact k0
          have hx1 : hd_at h1 x 135 sl := by
            obtain ⟨a1, a2, a3, a4, a5, a6⟩ := hx'
            have g1 := fw.1.2 x (Nat.lt_of_lt_of_le hN.2.1 fp.1)
            have r := oi1.2.2.1 sl hs
            exact ⟨by rw [g1.1]; exact a1, by rw [g1.2.2 0 (by rw [a1]; decide)]; exact a2, by rw [g1.2.2 1 (by rw [a1]; decide)]; exact a3, k01, r.1.2, r.2.1⟩
          refine Or.inl ⟨_, rfl, hx1.1, (c_X2_put (d := d - 1) (new := some o) oi1 hx1 hs hi10 (fun b e => by rw [← Option.some.inj e]; exact kd1) (fun b e => Or.inr (by rw [← Option.some.inj e]; exact List.mem_singleton.mpr rfl))).mono ?_⟩
          rintro r h3 (⟨rfl, oi3, fr3, rp⟩ | ⟨_, _, z⟩)
          · have : [o].filter (fun o' => decide (some o ≠ some o')) = [] := by simp
            rw [this] at oi3
            refine Or.inl ⟨rfl, nx oi3 (cj.put hs hi10 k01 fr3 rp (fun e => by rw [ei] at e; exact nomatch e) (fun b' eb' => ⟨o, rfl, kd1, fun c hc => ?_, fun a ha hne k' hk' => ?_⟩) (fun j hj => ?_))⟩
            · have ebb : b' = b := by rw [ei] at eb'; exact (Option.some.inj eb').symm
              subst ebb
              rw [← cb c hc]
              have : c = 0 ∨ c = 1 ∨ c = 2 ∨ c = 3 := by omega
              rcases this with rfl | rfl | rfl | rfl
              · exact e0
              · exact e1
              · exact e2
              · exact e3
            · rw [← c3 a ha hne k' hk']; exact no a ha k' hk'
            · refine ⟨fun e => ?_, fun e => ?_⟩
              · exfalso
                refine f4 j (Nat.zero_le _) (by omega) ?_
                rw [src j (by omega), src i hi10]; exact e
              · exact absurd (by rw [← rr sl hs j (by omega)]; exact e) (no sl hs j (by omega))
          · exact z.elim
        · exact z.elim
      · have lt : hd_first (hpR h' s2) i i 0 < i := by
          rcases Nat.lt_or_ge (hd_first (hpR h' s2) i i 0) i with q | q
          · exact q
          · exact absurd ((nI_leI (by omega) (by omega)).mpr q) nle
        have fr' := f3 lt
        generalize hd_first (hpR h' s2) i i 0 = r at lt fr' ⊢
        have er : hpR h s2 r = some b := by rw [← src r (by omega), fr']; exact eb
        obtain ⟨o, o1, o2, o3, o4⟩ := (c4 r lt).2 b er
        refine ⟨hx'.1, sl, hx'.2.2.1, hx'.2.2.2.2.1, by rw [hx'.2.2.2.2.2]; exact vp_in_nI (by omega) (by decide), ?_⟩
        rw [nI_clamp (show r < 2 ^ 31 by omega), o1]
        refine (c_X2_put (d := d - 1) (new := some o) c1 hx' hs hi10 (fun b e => by rw [← Option.some.inj e]; exact o2) (fun b e => Or.inl (by rw [← Option.some.inj e]; have := rcnt_pos RS hs (show r < 10 by omega) o1; omega))).mono ?_
        rintro r1 h1 (⟨rfl, oi, fr, rp⟩ | ⟨_, _, z⟩)
        · refine Or.inl ⟨rfl, nx oi (c.put hs hi10 k0 fr rp (fun e => by rw [ei] at e; exact nomatch e) (fun b' eb' => ⟨o, rfl, o2, fun c hc => ?_, o4⟩) (fun j hj => ?_))⟩
          · have ebb : b' = b := by rw [ei] at eb'; exact (Option.some.inj eb').symm
            subst ebb
            exact o3 c hc
          · rw [← o1, ei, ← er]
            exact c5 j r hj lt
        · exact z.elim
theorem c_copyApart (hd : 3 ≤ d) (q : OI h RS []) (os : OSq h RS) (hx : hd_at h x 135 sl) (hx2 : hd_at h x2 135 s2) (hs : sl ∈ RS) (h2s : s2 ∈ RS) (ne : sl ≠ s2) (hN : 135 < hpN h ∧ x < hpN h ∧ x2 < hpN h ∧ ∀ o, mx_kd h o 5 → 128 ≤ o) : mx_SM mY_X2_copyApart d [.ref x, .ref x2] h (fun r h1 => r = .inl none ∧ OI h1 RS [] ∧ CaJ h RS sl s2 10 h1) :=
  b_X2_copyApart x x2 (c_copyApart2 hd hx hx2 hs h2s ne hN 10 0 h rfl q ⟨FrW.rf, fun _ _ _ _ _ => rfl, fun k hk => absurd hk (Nat.not_lt_zero _), fun j k hj => absurd hj (Nat.not_lt_zero _), fun _ _ _ _ _ _ _ _ _ => rfl, os⟩)
end MXJ2A
