/-! THE PARSER, PURE: what was read has its code, is a good text: arguments, redirections, bodies -/
section QZ5
variable {t : Nat → Int32} {z : Nat} {k k1 k2 : qzT} {D : pmC} {T : spT} {N nc E n p q c d i j cm v0 : Nat} {v : Int32} {dp : Int32 → Nat} {rS rC : Nat → qzT → Nat → Nat → Nat → qzR qzX}
def wtB (T : spT) (n i : Nat) (v : Int32) : Prop := (tK T v = 4 → nSub T n i (· = 1) (tA T v)) ∧ (tK T v = 5 → nSub T n i (· = 1) (tA T v)) ∧
  (tK T v = 6 → nSub T n i (· = 2) (tA T v) ∧ nSub T n i (· = 1) (tB T v) ∧ nNx T n i (· = 1) (tC T v)) ∧
  (tK T v = 7 → nSub T n i (· = 2) (tA T v) ∧ nSub T n i (· = 1) (tB T v)) ∧
  (tK T v = 8 → nSub T n i (· = 1) (tA T v)) ∧
  (tK T v = 9 → okA T 1 (tA T v) ∧ (chn T 3000 (tA T v)).length = 1) ∧ (tK T v = 10 → okA T 350 (tA T v))
def wdC (T : spT) (dp : Int32 → Nat) (v : Int32) : Prop := ((tK T v = 4 ∨ tK T v = 5) → dp v + 1 ≤ dp (tA T v)) ∧
  (tK T v = 6 → dp v + 1 ≤ dp (tA T v) ∧ dp v + 1 ≤ dp (tB T v) ∧ (tC T v ≠ -1 → dp v + 1 ≤ dp (tC T v))) ∧
  (tK T v = 7 → dp v + 1 ≤ dp (tA T v) ∧ dp v + 1 ≤ dp (tB T v))
theorem nok_x (h5 : dp (nI i) ≤ 5) (h : tK T (nI i) = 11 ∨ tK T (nI i) = 12 ∨ tK T (nI i) = 13 ∨ tK T (nI i) = 14) : Nok T N dp i := by
  have nk : ¬ kCmd (tK T (nI i)) := by rcases h with h | h | h | h <;> rw [h] <;> unfold kCmd <;> decide
  have nn : ∀ {m : Int32}, m ≠ 11 → m ≠ 12 → m ≠ 13 → m ≠ 14 → tK T (nI i) ≠ m := fun a b c d e => by
    rcases h with h | h | h | h
    · exact a (e.symm.trans h)
    · exact b (e.symm.trans h)
    · exact c (e.symm.trans h)
    · exact d (e.symm.trans h)
  have a : ∀ {m : Int32} {P : Prop}, m ≠ 11 → m ≠ 12 → m ≠ 13 → m ≠ 14 → tK T (nI i) = m → P := fun a b c d e => absurd e (nn a b c d)
  exact ⟨⟨a (by decide) (by decide) (by decide) (by decide), a (by decide) (by decide) (by decide) (by decide), a (by decide) (by decide) (by decide) (by decide), fun c => absurd c nk, a (by decide) (by decide) (by decide) (by decide), a (by decide) (by decide) (by decide) (by decide), a (by decide) (by decide) (by decide) (by decide), a (by decide) (by decide) (by decide) (by decide), a (by decide) (by decide) (by decide) (by decide), a (by decide) (by decide) (by decide) (by decide), a (by decide) (by decide) (by decide) (by decide)⟩,
    h5, a (by decide) (by decide) (by decide) (by decide), a (by decide) (by decide) (by decide) (by decide), a (by decide) (by decide) (by decide) (by decide), fun c => absurd c nk, fun c => c.elim (a (by decide) (by decide) (by decide) (by decide)) (a (by decide) (by decide) (by decide) (by decide)), a (by decide) (by decide) (by decide) (by decide), a (by decide) (by decide) (by decide) (by decide)⟩
theorem nok_1 (e : tK T (nI i) = 1) (a : nNx T N i (· = 2) (tA T (nI i))) (h5 : dp (nI i) ≤ 5) (b : tA T (nI i) ≠ -1 → dp (nI i) ≤ dp (tA T (nI i))) : Nok T N dp i := by
  have n : ∀ {m : Int32} {P : Prop}, (1 : Int32) ≠ m → tK T (nI i) = m → P := fun h c => absurd (e.symm.trans c) h
  have nk : ¬ kCmd (tK T (nI i)) := by rw [e]; unfold kCmd; decide
  exact ⟨⟨fun _ => a, n (by decide), n (by decide), fun c => absurd c nk, n (by decide), n (by decide), n (by decide), n (by decide), n (by decide), n (by decide), n (by decide)⟩, h5, fun _ => b, n (by decide), n (by decide), fun c => absurd c nk, fun c => c.elim (n (by decide)) (n (by decide)), n (by decide), n (by decide)⟩
theorem nok_2 (e : tK T (nI i) = 2) (a : nSub T N i (· = 3) (tA T (nI i))) (a2 : nNx T N i (· = 2) (tN T (nI i))) (h5 : dp (nI i) ≤ 5) (b : dp (nI i) ≤ dp (tA T (nI i))) (b2 : tC T (tA T (nI i)) = 0) (b3 : tN T (nI i) ≠ -1 → dp (nI i) ≤ dp (tN T (nI i))) : Nok T N dp i := by
  have n : ∀ {m : Int32} {P : Prop}, (2 : Int32) ≠ m → tK T (nI i) = m → P := fun h c => absurd (e.symm.trans c) h
  have nk : ¬ kCmd (tK T (nI i)) := by rw [e]; unfold kCmd; decide
  exact ⟨⟨n (by decide), fun _ => ⟨a, a2⟩, n (by decide), fun c => absurd c nk, n (by decide), n (by decide), n (by decide), n (by decide), n (by decide), n (by decide), n (by decide)⟩, h5, n (by decide), fun _ => ⟨b, b2, b3⟩, n (by decide), fun c => absurd c nk, fun c => c.elim (n (by decide)) (n (by decide)), n (by decide), n (by decide)⟩
theorem nok_3 (e : tK T (nI i) = 3) (a : nSub T N i kCmd (tA T (nI i))) (a2 : nNx T N i (· = 3) (tN T (nI i))) (h5 : dp (nI i) ≤ 5) (b : dp (nI i) ≤ dp (tA T (nI i))) (b3 : tN T (nI i) ≠ -1 → dp (nI i) ≤ dp (tN T (nI i))) : Nok T N dp i := by
  have n : ∀ {m : Int32} {P : Prop}, (3 : Int32) ≠ m → tK T (nI i) = m → P := fun h c => absurd (e.symm.trans c) h
  have nk : ¬ kCmd (tK T (nI i)) := by rw [e]; unfold kCmd; decide
  exact ⟨⟨n (by decide), n (by decide), fun _ => ⟨a, a2⟩, fun c => absurd c nk, n (by decide), n (by decide), n (by decide), n (by decide), n (by decide), n (by decide), n (by decide)⟩, h5, n (by decide), n (by decide), fun _ => ⟨b, b3⟩, fun c => absurd c nk, fun c => c.elim (n (by decide)) (n (by decide)), n (by decide), n (by decide)⟩
theorem nok_c (e : kCmd (tK T (nI i))) (w : wtB T N i (nI i)) (wd : wdC T dp (nI i)) (a : nNx T N i kCmd (tN T (nI i))) (a1 : chE T 3000 (tR T (nI i))) (a2 : ∀ a ∈ chn T 3000 (tR T (nI i)), okR T a) (h5 : dp (nI i) ≤ 5) (b3 : tN T (nI i) ≠ -1 → dp (nI i) ≤ dp (tN T (nI i))) : Nok T N dp i := by
  have n1 : ∀ {P : Prop}, tK T (nI i) = 1 → P := fun c => absurd e (by rw [c]; unfold kCmd; decide)
  have n2 : ∀ {P : Prop}, tK T (nI i) = 2 → P := fun c => absurd e (by rw [c]; unfold kCmd; decide)
  have n3 : ∀ {P : Prop}, tK T (nI i) = 3 → P := fun c => absurd e (by rw [c]; unfold kCmd; decide)
  exact ⟨⟨n1, n2, n3, fun _ => ⟨a, a1, a2⟩, w⟩, h5, n1, n2, n3, fun _ => b3, wd⟩
theorem chE_z {m : Nat} : chE T (m + 1) (-1) := Or.inl rfl
theorem chn_z {m : Nat} : chn T (m + 1) (-1) = [] := if_pos rfl
theorem chn_s {m : Nat} (h : v ≠ -1) : chn T (m + 1) v = v :: chn T m (tN T v) := if_neg h
theorem nI_n1 {n : Nat} (h : n < 2 ^ 31) : nI n ≠ -1 := fun e => (nI_neg1 h).mp e
theorem pArg_fx {r : qzT × Int32 × Int64} (Tk0 : Tk t z k) (h : pArg t z k = some (.inr r)) : (r.2.1 = 11 ∧ 0 < r.2.2 ∧ fitW 12 r.2.2) ∨ r.2.1 = 12 ∨ (r.2.1 = 13 ∧ r.2.2 = 0) := by
  unfold pArg at h
  split at h
  · rename_i w
    obtain ⟨k1, e1, h⟩ := qzB_inr h
    cases h
    obtain ⟨-, -, -, a, b⟩ := Tk0.nm w
    exact Or.inl ⟨rfl, a, b⟩
  · split at h
    · obtain ⟨k1, e1, h⟩ := qzB_inr h
      split at h
      · obtain ⟨k2, e2, h⟩ := qzB_inr h
        cases h
        exact Or.inr (Or.inr ⟨rfl, rfl⟩)
      · split at h
        · obtain ⟨k2, e2, h⟩ := qzB_inr h
          cases h
          exact Or.inr (Or.inl rfl)
        · cases h
    · cases h
theorem dArg_at {s : Nat} {w : Int32 × Int64} {nx : Int32} (e : ndE T v (aNd s w nx)) (h : (w.1 = 11 ∧ 0 < w.2 ∧ fitW 12 w.2) ∨ w.1 = 12 ∨ (w.1 = 13 ∧ w.2 = 0)) : dArg T v = (aKd w.1, w.2) := by
  obtain ⟨e1, -, -, -, -, -, -, e8⟩ := e
  unfold dArg aKd
  rw [e1, e8]
  show (if w.1 = 11 then (0, w.2) else if w.1 = 13 then (2, 0) else (1, w.2)) = (if w.1 = 11 then 0 else if w.1 = 13 then 2 else 1, w.2)
  rcases h with ⟨h, -⟩ | h | ⟨h, h2⟩
  · rw [h, if_pos rfl, if_pos rfl]
  · rw [h, if_neg (by decide), if_neg (by decide), if_neg (by decide), if_neg (by decide)]
  · rw [h, h2, if_neg (by decide), if_pos rfl, if_neg (by decide), if_pos rfl]
theorem pAs_fx (hN : N ≤ 3000) : ∀ j k n (r : qzT × List qzN × List spA), Tk t z k → pAs t z j k n = some (.inr r) → n + r.2.1.length ≤ N → aN T D dp n r.2.1 →
    (∀ m, r.2.1.length < m → chE T m (if r.2.1 = [] then -1 else nI n) ∧ (chn T m (if r.2.1 = [] then -1 else nI n)).map (dArg T) = r.2.2 ∧ ∀ a ∈ chn T m (if r.2.1 = [] then -1 else nI n), tK T a = 11 → fitW 13 (tM T a)) ∧ Aok r.2.2 ∧ rgN T N dp n (n + r.2.1.length)
  | 0, k, n, r, T0, h, hn, a => by have h : (none : qzR (qzT × List qzN × List spA)) = some (.inr r) := h; cases h
  | j + 1, k, n, r, T0, h, hn, a => by
    unfold pAs at h
    split at h
    · obtain ⟨r1, e1, h⟩ := qzB_inr h
      obtain ⟨q, e2, h⟩ := qzB_inr h
      cases h
      have s1 := pArg_sz T0 e1
      have f1 := pArg_fx T0 e1
      obtain ⟨hd, -, hdp⟩ := a.hd
      have hn : n + (q.2.1.length + 1) ≤ N := hn
      obtain ⟨b1, b2, b3⟩ := pAs_fx hN j r1.1 (n + 1) q s1.1 e2 (by omega) a.tl
      have da := dArg_at hd f1
      have tn : tN T (nI n) = (if q.2.1 = [] then -1 else nI (n + 1)) := hd.2.2.2.2.2.1
      have n1 : nI n ≠ -1 := nI_n1 (by omega)
      refine ⟨fun m hm => ?_, fun x hx => ?_, ?_⟩
      · rw [if_neg (fun c => nomatch c)]
        obtain ⟨m, rfl⟩ : ∃ m', m = m' + 1 := ⟨m - 1, by omega⟩
        obtain ⟨c1, c2, c3⟩ := b1 m (by have hm : q.2.1.length + 1 < m + 1 := hm; omega)
        rw [chn_s n1, tn]
        refine ⟨Or.inr ⟨⟨n, rfl, by omega⟩, by rw [tn]; exact c1⟩, ?_, fun x hx => ?_⟩
        · rw [List.map_cons, da, c2]
        · rcases List.mem_cons.mp hx with rfl | hx
          · intro k11
            have k11 : r1.2.1 = 11 := hd.1.symm.trans k11
            have m8 : tM T (nI n) = r1.2.2 := hd.2.2.2.2.2.2.2
            rw [m8]
            rcases f1 with f | f | f
            · exact fit_up _ _ f.2.2
            · rw [f] at k11; exact absurd k11 (by decide)
            · rw [f.1] at k11; exact absurd k11 (by decide)
          · exact c3 x hx
      · rcases List.mem_cons.mp hx with rfl | hx
        · rcases f1 with f | f | f
          · rw [f.1]; exact ⟨show aKd 11 ≤ 2 by decide, fun _ => f.2⟩
          · rw [f]; exact ⟨show aKd 12 ≤ 2 by decide, fun c => absurd (show aKd 12 = 0 from c) (by decide)⟩
          · rw [f.1]; exact ⟨show aKd 13 ≤ 2 by decide, fun c => absurd (show aKd 13 = 0 from c) (by decide)⟩
        · exact b2 x hx
      · have e : n + (q.2.1.length + 1) = n + 1 + q.2.1.length := by omega
        show rgN T N dp n (n + (q.2.1.length + 1))
        rw [e]
        refine (rgN.one (nok_x (by rw [hdp]; exact Nat.zero_le _) ?_)).tr b3
        rw [hd.1]
        rcases s1.2.2 with e | e | e
        · exact Or.inl e
        · exact Or.inr (Or.inl e)
        · exact Or.inr (Or.inr (Or.inl e))
    · cases h
      refine ⟨fun m hm => ?_, fun x hx => absurd hx List.not_mem_nil, rgN.z⟩
      obtain ⟨m, rfl⟩ : ∃ m', m = m' + 1 := ⟨m - 1, by have hm : 0 < m := hm; omega⟩
      rw [if_pos rfl, chn_z]
      exact ⟨chE_z, rfl, fun x hx => absurd hx List.not_mem_nil⟩
theorem dg_n : ∀ n, n < 128 → isLt (nI n) = true → nI n ≤ 57 → 48 ≤ n ∧ n ≤ 57 := by decide +kernel
theorem dg_at {c : Int32} (h : isLt c = true) (h2 : c ≤ 57) : ∃ a, a < 10 ∧ c = nI (48 + a) ∧ c - 48 = nI a := by
  obtain ⟨n, hn, rfl⟩ := lt_nat h
  obtain ⟨a, b⟩ := dg_n n hn h h2
  refine ⟨n - 48, by omega, by rw [show 48 + (n - 48) = n by omega], ?_⟩
  rw [show (48 : Int32) = nI 48 from rfl, nI_sb a]
theorem D1.at (T0 : Tk t z k) (h : isD1 t k) : ∃ a, a < 10 ∧ t k.1 = nI (48 + a) ∧ t k.1 - 48 = nI a := dg_at (T0.w h.1).2.1 h.2.2
theorem pRd_fx {r : qzT × Int32 × Int32 × Int32 × Int64} (T0 : Tk t z k) (h : pRd t z k = some (.inr r)) : (∃ a, a < 10 ∧ r.2.1 = nI a) ∧ (r.2.2.2.1 = -1 ∨ ∃ b, b < 10 ∧ r.2.2.2.1 = nI b) := by
  unfold pRd at h
  obtain ⟨k1, e1, h⟩ := qzB_inr h
  obtain ⟨k2, e2, h⟩ := qzB_inr h
  have a : ∃ a, a < 10 ∧ (if isHd t z k then t k.1 - 48 else if k1.2.1 = 60 ∨ k1.2.1 = 15398 then 0 else 1) = nI a := by
    split
    · rename_i q
      obtain ⟨a, h1, -, h2⟩ := D1.at T0 q.1
      exact ⟨a, h1, h2⟩
    · split
      · exact ⟨0, by decide, rfl⟩
      · exact ⟨1, by decide, rfl⟩
  have T1 : Tk t z k1 := by
    split at e1
    · exact (T0.a0 e1).1
    · cases e1; exact T0
  have T2 := (T1.a0 e2).1
  split at h
  · split at h
    · obtain ⟨k3, e3, h⟩ := qzB_inr h
      cases h
      exact ⟨a, Or.inl rfl⟩
    · split at h
      · rename_i q
        obtain ⟨k3, e3, h⟩ := qzB_inr h
        cases h
        obtain ⟨b, h1, -, h2⟩ := D1.at T2 q
        exact ⟨a, Or.inr ⟨b, h1, h2⟩⟩
      · cases h
  · split at h
    · obtain ⟨k3, e3, h⟩ := qzB_inr h
      cases h
      exact ⟨a, Or.inl rfl⟩
    · cases h
theorem lN_nI : ∀ b, b < 10 → (nI b).toInt64 = lN b ∧ nI b ≠ -1 := by decide +kernel
theorem pRs_fx (hN : N ≤ 3000) : ∀ j k n (r : qzT × List qzN × List spR), Tk t z k → pRs t z j k n = some (.inr r) → n + r.2.1.length ≤ N → aN T D dp n r.2.1 →
    (∀ m, r.2.1.length < m → chE T m (if r.2.1 = [] then -1 else nI n) ∧ (chn T m (if r.2.1 = [] then -1 else nI n)).map (dRed T) = r.2.2 ∧ ∀ a ∈ chn T m (if r.2.1 = [] then -1 else nI n), okR T a) ∧ Rok r.2.2 ∧ rgN T N dp n (n + r.2.1.length)
  | 0, k, n, r, T0, h, hn, a => by have h : (none : qzR (qzT × List qzN × List spR)) = some (.inr r) := h; cases h
  | j + 1, k, n, r, T0, h, hn, a => by
    unfold pRs at h
    split at h
    · rename_i sr
      obtain ⟨r1, e1, h⟩ := qzB_inr h
      obtain ⟨q, e2, h⟩ := qzB_inr h
      cases h
      have s1 := pRd_sz T0 sr e1
      obtain ⟨⟨a1, a2, a3⟩, f2⟩ := pRd_fx T0 e1
      obtain ⟨hd, -, hdp⟩ := a.hd
      have hn : n + (q.2.1.length + 1) ≤ N := hn
      obtain ⟨b1, b2, b3⟩ := pRs_fx hN j r1.1 (n + 1) q s1.1 e2 (by omega) a.tl
      obtain ⟨d1, d2, d3, d4, d5, d6, d7, d8⟩ := hd
      have tn : tN T (nI n) = (if q.2.1 = [] then -1 else nI (n + 1)) := d6
      have tc : tC T (nI n) = r1.2.2.2.1 := d4
      have da : dRed T (nI n) = rSp r1.2 := by
        unfold dRed rSp
        rw [d3, d4, d2, d8]
      have n1 : nI n ≠ -1 := nI_n1 (by omega)
      have cl : r1.2.1.toNatClampNeg = a1 := by rw [a3, nI_clamp (by omega)]
      refine ⟨fun m hm => ?_, fun x hx => ?_, ?_⟩
      · rw [if_neg (fun c => nomatch c)]
        obtain ⟨m, rfl⟩ : ∃ m', m = m' + 1 := ⟨m - 1, by omega⟩
        obtain ⟨c1, c2, c3⟩ := b1 m (by have hm : q.2.1.length + 1 < m + 1 := hm; omega)
        rw [chn_s n1, tn]
        refine ⟨Or.inr ⟨⟨n, rfl, by omega⟩, by rw [tn]; exact c1⟩, ?_, fun x hx => ?_⟩
        · rw [List.map_cons, da, c2]
        · rcases List.mem_cons.mp hx with rfl | hx
          · refine ⟨⟨n, rfl, by omega⟩, ⟨a1, by rw [d2]; exact a3, a2⟩, ?_⟩
            rw [tc]
            rcases f2 with f | ⟨b, hb, f⟩
            · exact Or.inl f
            · exact Or.inr ⟨b, f, hb⟩
          · exact c3 x hx
      · rcases List.mem_cons.mp hx with rfl | hx
        · unfold rSp
          split
          · split
            · exact ⟨show (4 : Nat) ≤ 4 by decide, by rw [cl]; exact a2, fun c => absurd (show (4 : Nat) = 3 from c) (by decide)⟩
            · rename_i nc
              rcases f2 with f | ⟨b, hb, f⟩
              · exact absurd f nc
              · exact ⟨show (3 : Nat) ≤ 4 by decide, by rw [cl]; exact a2, fun _ => ⟨b, hb, by rw [f]; exact (lN_nI b hb).1⟩⟩
          · split
            · exact ⟨show (0 : Nat) ≤ 4 by decide, by rw [cl]; exact a2, fun c => absurd (show (0 : Nat) = 3 from c) (by decide)⟩
            · split
              · exact ⟨show (1 : Nat) ≤ 4 by decide, by rw [cl]; exact a2, fun c => absurd (show (1 : Nat) = 3 from c) (by decide)⟩
              · exact ⟨show (2 : Nat) ≤ 4 by decide, by rw [cl]; exact a2, fun c => absurd (show (2 : Nat) = 3 from c) (by decide)⟩
        · exact b2 x hx
      · have e : n + (q.2.1.length + 1) = n + 1 + q.2.1.length := by omega
        show rgN T N dp n (n + (q.2.1.length + 1))
        rw [e]
        exact (rgN.one (nok_x (by rw [hdp]; exact Nat.zero_le _) (Or.inr (Or.inr (Or.inr d1))))).tr b3
    · cases h
      refine ⟨fun m hm => ?_, fun x hx => absurd hx List.not_mem_nil, rgN.z⟩
      obtain ⟨m, rfl⟩ : ∃ m', m = m' + 1 := ⟨m - 1, by have hm : 0 < m := hm; omega⟩
      rw [if_pos rfl, chn_z]
      exact ⟨chE_z, rfl, fun x hx => absurd hx List.not_mem_nil⟩
end QZ5
