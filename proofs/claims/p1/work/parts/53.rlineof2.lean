/-! THE REFERENCE'S LINES: lineOf -/
section MXLP
variable {d : Nat} {h0 h : mxH} {w : spW} {G : List spE} {V : List (Option (Option Nat))} {P : List spX} {N : spN} {n m xs : Nat}
theorem mem_G {G : List spE} {f : Nat → Int32} (h : ∀ s, s < 1000 → f (83 * s + 82) = 1 → s ∈ G.map (fun e => e.1)) {s : Nat} (hs : s < 1000) (hl : f (83 * s + 82) = 1) : ∃ e ∈ G, e.1 = s := by
  obtain ⟨e, e1, e2⟩ := List.mem_map.mp (h s hs hl)
  exact ⟨e, e1, e2⟩
/-- all that is named is valid -/
theorem VA_of {L : Int32 → Prop} {A B : Nat → Option Nat} {Qs : Nat → List Nat} (hw : RW (RLn h) (hpI h 342) (hpL h 343) w)
    (hp : RP (RLn h) (hpI h 347) (hpI h 348) (hpI h 349) (hpI h 350) (hpI h 351) (hpI h 320 66) B Qs w) (he : RE (RLn h) A (hpI h 354) (hpL h 355) G)
    (hk : hpI h 320 82 = nI P.length ∧ P.length ≤ 6 ∧ ∀ d (hd : d < P.length), RK (RLn h) (fun k => hpI h 361 (778 * d + k)) (fun k => hpL h 362 (42 * d + k)) P[d])
    (c1 : RCw (hpI h 342) L) (c2 : ∀ s, s < 1000 → hpI h 354 (83 * s + 82) = 1 → RCs (shR (hpI h 354) s) L) (c3 : ∀ b, b < 400 → ∀ x ∈ Qs b, L (hpI h 350 x))
    (c4 : ∀ d, d < P.length → RCw (fun k => hpI h 361 (778 * d + k)) L ∧ RCs (fun k => hpI h 361 (778 * d + (471 + k))) L) : VA L h Qs P.length := by
  refine ⟨VW_of (fun k => by rw [Nat.zero_add]) hw c1, fun s h1 h2 => ?_, fun b hb => ?_, hk.1, hk.2.1, fun e he' => ?_⟩
  · obtain ⟨e, e1, rfl⟩ := mem_G he.2.2 h1 h2
    exact VF_of (fun k => rfl) (he.1 e e1).2.2.1 (c2 e.1 h1 h2)
  · obtain ⟨fr, a1, a2, a3, a4, a5, a6, a7, a8, a9⟩ := hp
    refine ⟨(a2 b hb).1, fun x hx => ?_⟩
    have ip : hpI h 349 b = 1 := by
      rcases a8 b hb with q | q
      · rw [(a2 b hb).2.2.2 q] at hx; cases hx
      · exact q
    obtain ⟨a, ha⟩ := a9 b hb ip
    obtain ⟨-, -, -, b4, b5⟩ := a6 a b ha
    obtain ⟨k, k1, rfl⟩ := List.getElem_of_mem hx
    obtain ⟨i, i1, i2, -⟩ := b5 k k1 (by omega)
    exact ⟨i, i1, i2, by rw [← i1]; exact c3 b hb _ hx⟩
  · have r := hk.2.2 e he'
    exact ⟨VW_of (fun k => rfl) r.1 (c4 e he').1, VF_of (p := 778 * e + 471) (fun k => by rw [Nat.add_assoc]) r.2.1 (c4 e he').2⟩
/-- all that is named is marked, if it is as the rows say -/
def Mk1 (u : Nat → Int32) (v : Int32) : Prop := ∃ i, v = nI i ∧ i < 4400 ∧ u i = 1
theorem RCw_of {ln : Int32 → spL → Prop} {L : Int32 → Prop} {f : Nat → Int32} {g : Nat → Int64} (r : RW ln f g w) (hl : ∀ v l, ln v l → L v) : RCw f L := by
  obtain ⟨⟨a1, a2, a3⟩, b, ⟨c1, c2, c3⟩, ⟨d1, d2, d3⟩⟩ := r
  refine ⟨fun i hi k hk => ?_, fun k hk => ?_, fun k hk => ?_⟩
  · by_cases q : i < (wF w).length
    · obtain ⟨e1, e2, e3, e4⟩ := a3 i q
      rw [e2, nI_clamp (by omega)] at hk
      exact hl _ _ (e4 k hk)
    · obtain ⟨ls, e1, e2, e3⟩ := b i (by omega) hi
      rw [e1, nI_clamp (by omega)] at hk
      exact hl _ _ (e3 k hk)
  · rw [c1, nI_clamp (by omega)] at hk
    exact hl _ _ (c3 k hk)
  · rw [d1, nI_clamp (by omega)] at hk
    exact hl _ _ (d3 k hk)
theorem RCs_of {ln : Int32 → spL → Prop} {L : Int32 → Prop} {f : Nat → Int32} {g : Nat → Int64} {F : spF} (r : RF ln f g F) (hl : ∀ v l, ln v l → L v) : RCs f L := fun k hk => by
  rw [r.1.1, nI_clamp (by have := r.1.2.1; omega)] at hk
  exact hl _ _ (r.1.2.2 k hk).2
theorem RCw_MW {u f f' : Nat → Int32} {g : Nat → Int64} {ln : Int32 → spL → Prop} {p : Nat} (hf : ∀ k, f' (p + k) = f k) (r : RW ln f g w) (m : MW u f' p) : RCw f (Mk1 u) := by
  obtain ⟨⟨a1, a2, a3⟩, b, ⟨c1, c2, c3⟩, ⟨d1, d2, d3⟩⟩ := r
  refine ⟨fun i hi k hk => ?_, fun k hk => ?_, fun k hk => ?_⟩
  · have : ∃ c, c ≤ 40 ∧ f (1 + 41 * i) = nI c := by
      by_cases q : i < (wF w).length
      · exact ⟨_, (a3 i q).2.2.1, (a3 i q).2.1⟩
      · obtain ⟨ls, e1, e2, -⟩ := b i (by omega) hi
        exact ⟨_, e2, e1⟩
    obtain ⟨c, q1, q2⟩ := this
    rw [q2, nI_clamp (by omega)] at hk
    obtain ⟨j, j1, j2, j3⟩ := m.1 i hi c q1 (by rw [Nat.add_assoc, hf]; exact q2) k hk
    exact ⟨j, by rw [← hf, ← j1]; congr 1; omega, j2, j3⟩
  · rw [c1, nI_clamp (by omega)] at hk
    obtain ⟨j, j1, j2, j3⟩ := m.2.1 _ c2 (by rw [hf]; exact c1) k hk
    exact ⟨j, by rw [← hf, ← j1]; congr 1; omega, j2, j3⟩
  · rw [d1, nI_clamp (by omega)] at hk
    obtain ⟨j, j1, j2, j3⟩ := m.2.2 _ d2 (by rw [hf]; exact d1) k hk
    exact ⟨j, by rw [← hf, ← j1]; congr 1; omega, j2, j3⟩
theorem RCs_Mk {u f f' : Nat → Int32} {g : Nat → Int64} {ln : Int32 → spL → Prop} {F : spF} {p : Nat} (hf : ∀ k, f' (p + k) = f k) (r : RF ln f g F) (m : ∀ c, c ≤ 20 → f' p = nI c → Mkd u f' (p + 1) c) : RCs f (Mk1 u) := fun k hk => by
  rw [r.1.1, nI_clamp (by have := r.1.2.1; omega)] at hk
  obtain ⟨j, j1, j2, j3⟩ := m _ r.1.2.1 (by rw [← r.1.1, ← hf 0]; rfl) k hk
  exact ⟨j, by rw [← hf, ← j1]; congr 1; omega, j2, j3⟩
theorem RLn.used {v : Int32} {l : spL} (r : RLn h v l) : Mk1 (hpI h 341) v := by
  obtain ⟨i, i1, i2, i3, -⟩ := r; exact ⟨i, i1, i2, i3⟩
section
variable {u : Nat → Int32} {q c : Nat} {t : Nat → Int32}
theorem loF_I {a : Nat} (h1 : a ≠ 339) (h2 : a ≠ 340) (h3 : a ≠ 341) (h4 : a ≠ 320) : hpI (loF h u q c t) a = hpI h a := by
  rw [loF, hpI_rI, if_neg h1, hpI_sIo h2, lost_I h3 h4]
theorem loF_F {k : Nat} (hk : k ≠ 55) : hpI (loF h u q c t) 320 k = hpI h 320 k := by
  rw [loF, hpI_rI, if_neg (by decide), hpI_sIo (by decide), lost_F hk]
theorem loF_55 : hpI (loF h u q c t) 320 55 = nI q := by rw [loF, hpI_rI, if_neg (by decide), hpI_sIo (by decide), lost_55]
theorem loF_L : hpL (loF h u q c t) = hpL h := rfl
theorem loF_339 : hpI (loF h u q c t) 339 = t := by rw [loF, hpI_rIs]
theorem loF_340 : hpI (loF h u q c t) 340 = fup (hpI h 340) q (nI c) := by rw [loF, hpI_rI, if_neg (by decide), hpI_sIs, lost_I (by decide) (by decide)]
theorem loF_341 : hpI (loF h u q c t) 341 = fup u q 1 := by rw [loF, hpI_rI, if_neg (by decide), hpI_sIo (by decide), lost_341]
theorem loF_Fr (r : Fr h0 h) : Fr h0 (loF h u q c t) := (((r.rI (a := 341) (f := fup u q 1) rfl).sF (k := 55) rfl).rI (a := 340) rfl).rI rfl
/-- a line that is marked stays -/
theorem loF_ln (hu : u q = 0) (ht : ∀ i, i < 80 * q ∨ 80 * q + 80 ≤ i → t i = hpI h 339 i) {v : Int32} {l : spL} (hm : Mk1 u v) (r : RLn h v l) : RLn (loF h u q c t) v l := by
  obtain ⟨i, rfl, i2, i3, i4, i5, i6⟩ := r
  obtain ⟨j, j1, j2, j3⟩ := hm
  have e : i = j := (nI_eq (by omega) (by omega)).mp j1
  subst e
  have ne : i ≠ q := fun e => by rw [e, hu] at j3; cases j3
  show RLr (hpI (loF h u q c t) 339) (hpI (loF h u q c t) 340) (hpI (loF h u q c t) 341) _ _
  rw [loF_339, loF_340, loF_341]
  refine ⟨i, rfl, i2, by rw [fup_n ne]; exact j3, i4, by rw [fup_n ne]; exact i5, fun k hk => ?_⟩
  rw [ht _ (by omega)]
  exact i6 k hk
end
abbrev srcL (h : mxH) (a p c : Nat) : spL := (List.range c).map fun k => hpI h a (p + k)
theorem srcL_len {a p c : Nat} : (srcL h a p c).length = c := by simp
theorem srcL_at {a p c k : Nat} (hk : k < (srcL h a p c).length) : (srcL h a p c)[k] = hpI h a (p + k) := by
  simp
theorem k_X12_lineOf (hd : 4 ≤ d) {Y Z : List (Int32 × Nat)} (r : RG h0 h w G V P ([], Y, Z) n m xs) (hn : n < 4399) {a p c : Nat} (ha : srcR a) (hc31 : c < 2 ^ 31) (hz : p + min 80 c ≤ srZ a) (hb : ∀ k, k < min 80 c → isB (hpI h a (p + k))) :
    mx_SM mY_X12_lineOf d [.ref 320, .ref a, .int (nI p), .int (nI c)] h (mx_KI (fun v h1 => RG h0 h1 w G V P ([(v, srcL h a p (min 80 c))], Y, Z) (n + 1) m xs) fun _ _ => False) := by
  obtain ⟨A, B, Qs, fr, sr, hw, ht, ho, hp, he, hv, hk, ⟨Lr, l1, l2, l3, l4, l5, l6⟩, hd', ⟨z1, ⟨p0, z2, z3⟩, z4, z5⟩, hN⟩ := r
  have v : VA (· ∈ Lr) h Qs P.length := VA_of hw hp he hk l2 l3 l4 l5
  have l4' : ∀ b, b < 400 → ∀ x ∈ Qs b, Mk1 (hpI h 341) (hpI h 350 x) := fun b hb x hx => by
    obtain ⟨frr, a1, a2, a3, a4, a5, a6, a7, a8, a9⟩ := hp
    have ip : hpI h 349 b = 1 := by
      rcases a8 b hb with q | q
      · rw [(a2 b hb).2.2.2 q] at hx; cases hx
      · exact q
    obtain ⟨a', ha'⟩ := a9 b hb ip
    obtain ⟨-, -, -, b4, b5⟩ := a6 a' b ha'
    obtain ⟨k, k1, rfl⟩ := List.getElem_of_mem hx
    exact (b5 k k1 (by omega)).used
  have M0 : MA (hpI h 341) h Qs P.length := by
    have vv : VA (Mk1 (hpI h 341)) h Qs P.length := VA_of hw hp he hk (RCw_of hw fun _ _ q => q.used) (fun s h1 h2 => by
      obtain ⟨e, e1, rfl⟩ := mem_G he.2.2 h1 h2
      exact RCs_of (he.1 e e1).2.2.1 fun _ _ q => q.used) l4' fun d hd => ⟨RCw_of (hk.2.2 d hd).1 fun _ _ q => q.used, RCs_of (hk.2.2 d hd).2.1 fun _ _ q => q.used⟩
    have one : ∀ f j n, Vld (Mk1 (hpI h 341)) f j n → Mkd (hpI h 341) f j n := fun f j n q k hk => by
      obtain ⟨i, i1, i2, i', i3, i4, i5⟩ := q k hk
      have e : i = i' := (nI_eq (by omega) (by omega)).mp i3
      exact ⟨i, i1, i2, by rw [e]; exact i5⟩
    have two : ∀ f p, VW (Mk1 (hpI h 341)) f p → MW (hpI h 341) f p := fun f p q => by
      refine ⟨fun i hi c hc e => ?_, fun c hc e => ?_, fun c hc e => ?_⟩
      · obtain ⟨c', c1, c2, c3⟩ := q.1 i hi
        rw [c2] at e
        have : c' = c := (nI_eq (by omega) (by omega)).mp e
        exact this ▸ one _ _ _ c3
      · obtain ⟨c', c1, c2, c3⟩ := q.2.1
        rw [c2] at e
        have : c' = c := (nI_eq (by omega) (by omega)).mp e
        exact this ▸ one _ _ _ c3
      · obtain ⟨c', c1, c2, c3⟩ := q.2.2
        rw [c2] at e
        have : c' = c := (nI_eq (by omega) (by omega)).mp e
        exact this ▸ one _ _ _ c3
    have thr : ∀ f p, (∃ c, c ≤ 20 ∧ f p = nI c ∧ Vld (Mk1 (hpI h 341)) f (p + 1) c) → ∀ c, c ≤ 20 → f p = nI c → Mkd (hpI h 341) f (p + 1) c := fun f p ⟨c', c1, c2, c3⟩ c hc e => by
      rw [c2] at e
      have : c' = c := (nI_eq (by omega) (by omega)).mp e
      exact this ▸ one _ _ _ c3
    refine ⟨two _ _ vv.1, fun s h1 h2 => thr _ _ (vv.2.1 s h1 h2), fun b hb x hx => l4' b hb x hx, fun e he' => ⟨two _ _ (vv.2.2.2.2.2 e he').1, thr _ _ (vv.2.2.2.2.2 e he').2⟩⟩
  refine k_X12_lineOf_raw (L := (· ∈ Lr)) hd sr v ha hc31 hz hb z2 z3 (fun u hu => ?_) M0 (fun c0 => ?_) (fun u q t' q1 q2 q3 q4 t1 t2 MA' u00 => ?_)
  · obtain ⟨i, i1, i2⟩ := out_of 4400 (0 :: Lr.map fun v => v.toNatClampNeg) (by have := l1.1; rw [List.length_cons, List.length_map]; omega)
    have i0 : i ≠ 0 := fun e => i2 (by rw [e]; exact List.mem_cons_self)
    refine ⟨i, by omega, i1, ?_⟩
    rcases hu i i1 with q | ⟨-, q | q⟩
    · exact q
    · exact absurd q i0
    · exact absurd (List.mem_cons_of_mem _ (List.mem_map.mpr ⟨_, q, nI_clamp (by omega)⟩)) i2
  · subst c0
    refine Or.inl ⟨0, rfl, A, B, Qs, fr, sr, hw, ht, ho, hp, he, hv, hk, ⟨0 :: Lr, ⟨by have := l1.1; rw [List.length_cons]; omega, List.mem_cons_self⟩, ⟨fun i hi k hk => List.mem_cons_of_mem _ (l2.1 i hi k hk), fun k hk => List.mem_cons_of_mem _ (l2.2.1 k hk), fun k hk => List.mem_cons_of_mem _ (l2.2.2 k hk)⟩, fun s h1 h2 k hk => List.mem_cons_of_mem _ (l3 s h1 h2 k hk), fun b hb x hx => List.mem_cons_of_mem _ (l4 b hb x hx), fun d hd => ⟨⟨fun i hi k hk => List.mem_cons_of_mem _ ((l5 d hd).1.1 i hi k hk), fun k hk => List.mem_cons_of_mem _ ((l5 d hd).1.2.1 k hk), fun k hk => List.mem_cons_of_mem _ ((l5 d hd).1.2.2 k hk)⟩, fun k hk => List.mem_cons_of_mem _ ((l5 d hd).2 k hk)⟩, fun q hq => ?_⟩, hd', ⟨z1, ⟨p0, z2, z3⟩, z4, z5⟩, fun q hq => ?_, hN.2⟩
    · rw [List.mem_singleton.mp hq]; exact List.mem_cons_self
    · rw [List.mem_singleton.mp hq]; exact z1
  · have hm : ∀ v l, Mk1 u v → RLn h v l → RLn (loF h u q (min 80 c) t') v l := fun v l k1 k2 => loF_ln q3 t1 k1 k2
    obtain ⟨m1, m2, m3, m4⟩ := MA'
    have w1 : RCw (hpI h 342) (Mk1 u) := RCw_MW (fun k => by rw [Nat.zero_add]) hw m1
    have w2 : ∀ s, s < 1000 → hpI h 354 (83 * s + 82) = 1 → RCs (shR (hpI h 354) s) (Mk1 u) := fun s h1 h2 => by
      obtain ⟨e, e1, rfl⟩ := mem_G he.2.2 h1 h2
      exact RCs_Mk (fun k => rfl) (he.1 e e1).2.2.1 (m2 e.1 h1 h2)
    have w3 : ∀ b, b < 400 → ∀ x ∈ Qs b, Mk1 u (hpI h 350 x) := m3
    have nl : RLn (loF h u q (min 80 c) t') (nI q) (srcL h a p (min 80 c)) := by
      show RLr (hpI (loF h u q _ t') 339) (hpI (loF h u q _ t') 340) (hpI (loF h u q _ t') 341) _ _
      rw [loF_339, loF_340, loF_341]
      refine ⟨q, rfl, q1, fup_e, by rw [srcL_len]; omega, by rw [srcL_len, fup_e], fun k hk => ?_⟩
      have hk' : k < min 80 c := by rw [srcL_len] at hk; exact hk
      rw [srcL_at, t2 k hk']
      exact ⟨rfl, hb k hk'⟩
    have u0 : u 0 = 1 := by
      rcases u00 with g | g
      · exact g
      · obtain ⟨i, i1, i2, i3, -⟩ := z1
        have : i = 0 := (nI_eq (b := 0) (by omega) (by omega)).mp i1.symm
        rw [g, ← this]; exact i3
    refine Or.inl ⟨nI q, rfl, A, B, Qs, loF_Fr fr, sr, ?_⟩
    simp (disch := decide) only [loF_I, loF_F, loF_L]
    refine ⟨hw.mono w1 hm, ht, ho, hp.mono w3 hm, he.mono w2 hm fun _ _ _ _ _ _ _ _ q => q, hv, ⟨hk.1, hk.2.1, fun d hd => ?_⟩, ⟨nI q :: Lr, ⟨by have := l1.1; rw [List.length_cons]; omega, List.mem_cons_of_mem _ l1.2⟩, ⟨fun i hi k hk => List.mem_cons_of_mem _ (l2.1 i hi k hk), fun k hk => List.mem_cons_of_mem _ (l2.2.1 k hk), fun k hk => List.mem_cons_of_mem _ (l2.2.2 k hk)⟩, fun s h1 h2 k hk => List.mem_cons_of_mem _ (l3 s h1 h2 k hk), fun b hb x hx => List.mem_cons_of_mem _ (l4 b hb x hx), fun d hd => ⟨⟨fun i hi k hk => List.mem_cons_of_mem _ ((l5 d hd).1.1 i hi k hk), fun k hk => List.mem_cons_of_mem _ ((l5 d hd).1.2.1 k hk), fun k hk => List.mem_cons_of_mem _ ((l5 d hd).1.2.2 k hk)⟩, fun k hk => List.mem_cons_of_mem _ ((l5 d hd).2 k hk)⟩, fun q hq => ?_⟩, hd', ⟨?_, ⟨q, loF_55, q1⟩, z4, z5⟩, fun q hq => ?_, hN.2⟩
    · exact (hk.2.2 d hd).mono (RCw_MW (f' := hpI h 361) (p := 778 * d) (fun k => rfl) (hk.2.2 d hd).1 (m4 d hd).1) (RCs_Mk (f' := hpI h 361) (p := 778 * d + 471) (fun k => by rw [Nat.add_assoc]) (hk.2.2 d hd).2.1 (m4 d hd).2) hm
    · rw [List.mem_singleton.mp hq]; exact List.mem_cons_self
    · exact hm _ _ ⟨0, rfl, by omega, u0⟩ z1
    · rw [List.mem_singleton.mp hq]; exact nl
end MXLP
