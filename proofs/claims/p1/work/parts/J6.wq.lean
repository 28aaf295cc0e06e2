/-! a world at rest is copied, and stays where it isn't written -/
section MXJ6
variable {B h h1 h2 : mxH} {D : pmC} {n k W W1 W2 s sl s2 s3 nf : Nat} {w : spW} {F : spF} {jl : List Int32} {XL FS VS OS RS : List Nat} {O : List spO} {hs : spH} {p : Nat → Prop}
theorem CW.cp {ln : Int32 → spL → Prop} {f0 f2 f3 f4 f5 f9 F0 F2 F3 F4 F5 F9 : Nat → Int32} {g1 G1 : Nat → Int64} (c : CW ln f0 f2 f3 f4 f5 f9 g1 s w)
    (e0 : ∀ k, k = 3 ∨ k = 5 ∨ k = 7 ∨ k = 10 ∨ k = 11 ∨ k = 12 ∨ k = 13 → F0 k = f0 k) (e1 : ∀ k, k < 8 → G1 k = g1 k ∧ F2 k = f2 k) (e3 : ∀ k, k < 320 → F3 k = f3 k) (e4 : ∀ k, k < 40 → F4 k = f4 k) (e5 : ∀ k, k < 100 → F5 k = f5 k) (e9 : ∀ k, k < 180 → F9 k = f9 k) : CW ln F0 F2 F3 F4 F5 F9 G1 s w := by
  obtain ⟨⟨a1, a2, a3⟩, ⟨b1, b2, b3⟩, ⟨c1, c2, c3⟩, ⟨d1, d2, d3, d4⟩, m, t1, t2, t3, t4⟩ := c
  refine ⟨⟨by rw [e0 3 (by omega)]; exact a1, a2, fun i hi => ?_⟩, ⟨by rw [e0 5 (by omega)]; exact b1, b2, fun k hk => ?_⟩, ⟨by rw [e0 7 (by omega)]; exact c1, c2, fun k hk => ?_⟩, ⟨by rw [e0 11 (by omega)]; exact d1, d2, by rw [e0 12 (by omega)]; exact d3, by rw [e0 13 (by omega)]; exact d4⟩, m, by rw [e0 10 (by omega)]; exact t1, t2, t3, fun k hk => ?_⟩
  · obtain ⟨z1, z2, z3, z4⟩ := a3 i hi
    have q := e1 i (by omega)
    exact ⟨by rw [q.1]; exact z1, by rw [q.2]; exact z2, z3, fun k hk => by rw [e3 _ (by omega)]; exact z4 k hk⟩
  · rw [e4 _ (by omega)]; exact b3 k hk
  · rw [e5 _ (by omega)]; exact c3 k hk
  · have lt : (m - (wT w).length + k) % 60 < 60 := Nat.mod_lt _ (by decide)
    rw [e9 _ (by omega), e9 _ (by omega), e9 _ (by omega)]
    exact t4 k hk
theorem OQ.cg {o o' : Nat} {q : spO} (c : OQ h o q nf) (e : ∀ k, k < 4 → hpI h1 o' k = hpI h o k) : OQ h1 o' q nf := by
  obtain ⟨a, b, c, d, f, g⟩ := c
  exact ⟨by rw [e 0 (by decide)]; exact a, b, c, by rw [e 3 (by decide)]; exact d, f, fun z => by rw [e 1 (by decide)]; exact g z⟩
theorem HQ.cp (q : HQ h s2 O nf hs) (c : CRw h h1 RS sl s2) : HQ h1 sl O nf hs := by
  obtain ⟨c1, c2, c3, c4⟩ := c
  refine ⟨fun k hk => ⟨fun e => (c2 k hk).1 ((q.1 k hk).1 e), fun a ha => ?_⟩, fun j k hj hk => (c3 j k hj hk).symm.trans (q.2 j k hj hk)⟩
  obtain ⟨o, q', r1, r2, r3, r4⟩ := (q.1 k hk).2 a ha
  obtain ⟨o', o1, o2, o3, -⟩ := (c2 k hk).2 o r1
  exact ⟨o', q', o1, o2, r3, r4.cg o3⟩
theorem HQ.keep (q : HQ h s3 O nf hs) (c : CRw h h1 RS sl s2) (fp : FP h h1) (m : s3 ∈ RS) (ne : s3 ≠ sl) : HQ h1 s3 O nf hs := by
  obtain ⟨c1, c2, c3, c4⟩ := c
  refine ⟨fun k hk => ⟨fun e => by rw [c1 s3 m ne k hk]; exact (q.1 k hk).1 e, fun a ha => ?_⟩, fun j k hj hk => by rw [c1 s3 m ne j hj, c1 s3 m ne k hk]; exact q.2 j k hj hk⟩
  obtain ⟨o, q', r1, r2, r3, r4⟩ := (q.1 k hk).2 a ha
  exact ⟨o, q', by rw [c1 s3 m ne k hk]; exact r1, fp.kd r2, r3, r4.cg (fun c hc => c4 s3 m ne k hk o r1 c hc)⟩
theorem FrX.ln (sc : SC h) (f : FrX p h h1) (hp : ∀ b, 131 ≤ b → b ≤ 134 → ¬ p b) : CLn h1 = CLn h := CLn_cg (fun b q1 q2 => (f.2.2.2.1 b (by have := sc.1; omega) (sc_ne5 sc (by omega)) (hp b (by omega) (by omega))).1)
theorem WQ.cp (sc : SC h) (hW : 134 < W) (f : FrX (wblk W) h h1) (c : CRw h h1 RS (W + 15) (W1 + 15)) (z : CSh h h1 (W + 6) (W1 + 6) (fV F).length (fU F).length) (y : CWo h h1 W W1) (q : WQ D h W1 w F jl) : WQ D h1 W w F jl := by
  obtain ⟨⟨s, s9, q1⟩, q2, ⟨⟨v1, v2, v3⟩, ⟨u1, u2, u3⟩, ac, pf, st⟩, ⟨j1, j2, j3⟩, q5⟩ := q
  obtain ⟨⟨z1, z2⟩, ⟨z3, z4⟩, z5, z6, z7⟩ := z
  obtain ⟨y0, y1, y3, y4, y5, y9⟩ := y
  have el := f.ln sc (fun b h1 h2 => by unfold wblk; omega)
  refine ⟨⟨s, s9, ?_⟩, q2, ⟨⟨z1, v2, fun k hk => ⟨(z2 k hk).1.trans (v3 k hk).1, ?_⟩⟩, ⟨z3, u2, fun k hk => ⟨(z4 k hk).1.trans (u3 k hk).1, (z4 k hk).2.trans (u3 k hk).2⟩⟩, fun k hk => (z5 k hk).trans (ac k hk), ?_, ?_⟩, ⟨?_, j2, fun k hk => (z7 k (by omega)).trans (j3 k hk)⟩, q5.cp c⟩
  · show CW (CLn h1) (hpI h1 W) _ _ _ _ _ _ s w
    rw [el]
    exact q1.cp (fun k hk => by rw [y0, if_pos hk]) y1 y3 y4 y5 y9
  · rw [el, (z2 k hk).2]; exact (v3 k hk).2
  · rw [z6, if_pos (by decide)]; exact pf
  · rw [z6, if_pos (by decide)]; exact st
  · rw [z6, if_pos (by decide)]; exact j1
theorem WQ.keep (sc : SC h) (hW : 134 < W) (wb : WB h W2) (f : FrX (wblk W) h h1) (c : CRw h h1 RS (W + 15) sl) (ap : W + 20 ≤ W2 ∨ W2 + 20 ≤ W) (m : W2 + 15 ∈ RS) (q : WQ D h W2 w F jl) : WQ D h1 W2 w F jl := by
  obtain ⟨⟨s, s9, q1⟩, q2, q3, ⟨j1, j2, j3⟩, q5⟩ := q
  have el := f.ln sc (fun b h1 h2 => by unfold wblk; omega)
  have N := wb.1
  have eb : ∀ i, i < 20 → hpK h (W2 + i) ≠ 5 → hpI h1 (W2 + i) = hpI h (W2 + i) ∧ hpL h1 (W2 + i) = hpL h (W2 + i) := fun i hi hk => f.2.2.2.1 _ (by omega) hk (by unfold wblk; omega)
  have es : ∀ i, i < 13 → hpI h1 (W2 + 6 + i) = hpI h (W2 + 6 + i) ∧ hpL h1 (W2 + 6 + i) = hpL h (W2 + 6 + i) := fun i hi => f.2.2.2.1 _ (by omega) (wb.sb.ne5 hi) (by unfold wblk; omega)
  have k0 := eb 0 (by omega) (by show hpK h W2 ≠ 5; rw [wb.k0]; decide)
  have k1 := eb 1 (by omega) (by rw [wb.k1]; decide)
  have k2 := eb 2 (by omega) (by rw [wb.k2]; decide)
  have k3 := eb 3 (by omega) (by rw [wb.k3]; decide)
  have k4 := eb 4 (by omega) (by rw [wb.k4]; decide)
  have k5 := eb 5 (by omega) (by rw [wb.k5]; decide)
  have k19 := eb 19 (by omega) (by rw [wb.k19]; decide)
  have s0 : hpI h1 (W2 + 6) = hpI h (W2 + 6) := (es 0 (by omega)).1
  refine ⟨⟨s, s9, ?_⟩, q2, ?_, ⟨by rw [s0]; exact j1, j2, fun k hk => by rw [(es 12 (by omega)).1]; exact j3 k hk⟩, q5.keep c f.1 m (by omega)⟩
  · show CW (CLn h1) (hpI h1 W2) (hpI h1 (W2 + 2)) (hpI h1 (W2 + 3)) (hpI h1 (W2 + 4)) (hpI h1 (W2 + 5)) (hpI h1 (W2 + 19)) (hpL h1 (W2 + 1)) s w
    rw [el, show hpI h1 W2 = hpI h W2 from k0.1, k2.1, k3.1, k4.1, k5.1, k19.1, k1.2]
    exact q1
  · unfold CFc at q3 ⊢
    rw [el, s0, (es 1 (by omega)).1, (es 2 (by omega)).2, (es 3 (by omega)).1, (es 4 (by omega)).1, (es 5 (by omega)).2, (es 6 (by omega)).1, (es 7 (by omega)).2]
    exact q3
/-- accounts of memory -/
theorem CN.grow (c : CN B h XL VS OS RS []) (f : FrX p h h1) (os : OSq h1 RS) (k : mx_kd h 319 5) : ∃ OS', CN B h1 XL VS OS' RS [] := by
  obtain ⟨n1, n2, n3, n4, n5, n6, n7⟩ := c
  obtain ⟨OS', o1, o2, o3⟩ := os
  obtain ⟨fp, f2, f3, -, -, f6⟩ := f
  have l1 : 1 ≤ OS.length := List.length_pos_of_mem ((n2 319).mpr k)
  have n0 := fp.1
  have nd : (OS ++ List.range' (hpN h) (hpN h1 - hpN h)).Nodup := by
    rw [List.nodup_append]
    refine ⟨n1, List.nodup_range', fun a ha b hb e => ?_⟩
    have := ((n2 a).mp ha).1
    rw [List.mem_range'_1] at hb
    omega
  have mem : ∀ o, o ∈ OS ++ List.range' (hpN h) (hpN h1 - hpN h) ↔ mx_kd h1 o 5 := fun o => by
    rw [List.mem_append, List.mem_range'_1]
    refine ⟨fun m => m.elim (fun m => fp.kd ((n2 o).mp m)) (fun m => ⟨by omega, f6 o m.1 (by omega)⟩), fun m => ?_⟩
    by_cases c : o < hpN h
    · exact Or.inl ((n2 o).mpr ⟨c, by rw [← (fp.2 o c).1]; exact m.2⟩)
    · exact Or.inr ⟨by omega, by have := m.1; omega⟩
  have e1 := nd_le o1 (fun o m => (mem o).mpr ((o2 o).mp m))
  have e2 := nd_le nd (fun o m => (o2 o).mpr ((mem o).mp m))
  rw [List.length_append, List.length_range'] at e1 e2
  exact ⟨OS', o1, o2, o3, n4, by omega, by omega, by omega⟩
theorem CN.os (c : CN B h XL VS OS RS []) : OSq h RS := ⟨OS, c.1, c.2.1, c.2.2.1⟩
end MXJ6
