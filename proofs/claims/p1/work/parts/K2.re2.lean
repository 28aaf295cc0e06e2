/-! ShellCore.remember: the copy, and all marks -/
section MXK2
variable {B h h1 h2 h3 h' : mxH} {D : pmC} {d n n' j k r W s nv : Nat} {L M : List Nat} {w : spW} {F : spF} {jl : List Int32} {XL FS VS OS : List Nat} {pi : Nat → Nat} {p : Nat → Prop}
theorem WQ.exl (s0 : SC h) (q : WQ D h W w F jl) (hW : 134 < W) (e : ExL p (fun _ => False) h h1) (hp : ∀ b, p b → b < 132 ∧ hpK h b ≠ 5) : WQ D h1 W w F jl := by
  obtain ⟨eN, eC, eS, eK, eZ, eR, eI, eL⟩ := e
  have eL : hpL h1 = hpL h := by funext b; exact eL b id
  have I : ∀ b, 131 < b → hpI h1 b = hpI h b := fun b hb => eI b (fun z => by have := (hp b z).1; omega)
  have el : CLn h1 = CLn h := CLn_cg (fun b q1 q2 => I b (by omega))
  obtain ⟨⟨s, s9, q1⟩, q2, q3, ⟨j1, j2, j3⟩, hq⟩ := q
  refine ⟨⟨s, s9, ?_⟩, q2, ?_, ⟨by rw [I _ (by omega)]; exact j1, j2, fun k hk => by rw [I _ (by omega)]; exact j3 k hk⟩, ?_⟩
  · show CW (CLn h1) (hpI h1 W) (hpI h1 (W + 2)) (hpI h1 (W + 3)) (hpI h1 (W + 4)) (hpI h1 (W + 5)) (hpI h1 (W + 19)) (hpL h1 (W + 1)) s w
    rw [I _ (by omega), I _ (by omega), I _ (by omega), I _ (by omega), I _ (by omega), I _ (by omega), eL, el]
    exact q1
  · unfold CFc at q3 ⊢
    rw [eL, el, I _ (by omega), I _ (by omega), I _ (by omega), I _ (by omega), I _ (by omega)]
    exact q3
  · obtain ⟨h1', h2'⟩ := hq
    refine ⟨fun k hk => ⟨fun c => by rw [eR]; exact (h1' k hk).1 c, fun a ha => ?_⟩, fun j k hj hk => by rw [eR]; exact h2' j k hj hk⟩
    obtain ⟨o, q', r1, r2, r3, r4⟩ := (h1' k hk).2 a ha
    exact ⟨o, q', by rw [eR]; exact r1, ⟨by rw [eN]; exact r2.1, by rw [eK]; exact r2.2⟩, r3, r4.cg (fun c _ => by rw [eI o (fun z => (hp o z).2 r2.2)])⟩
theorem IDW.exl (i : IDW D B h n w F jl XL FS VS OS) (e : ExL p (fun _ => False) h h1) (hp : ∀ b, p b → b ≠ 146 ∧ hpK h b ≠ 5) (q : WQ D h1 140 w F jl) (cu : CU h1 n') : IDW D B h1 n' w F jl XL FS VS OS := by
  obtain ⟨s0, -, cn, cd, oi, -, ⟨x1, x2, x3, x4, x5⟩, cv, past, ⟨n1, n2, n3, n4, n5, n6, n7⟩⟩ := i
  have N := s0.1
  have oi1 := oi.ofL e (fun b hb => (hp b hb).2)
  have mem : ∀ u ∈ VS, u + 1 ∈ cRS XL VS := fun u hu => by
    unfold cRS
    exact List.mem_append_right _ (List.mem_cons_of_mem _ (List.mem_append_right _ (List.mem_map.mpr ⟨u, hu, rfl⟩)))
  have fp := e.fp
  obtain ⟨eN, eC, eS, eK, eZ, eR, eI, eL⟩ := e
  refine ⟨s0.fp fp, q, cn, ?_, oi1, cu, ⟨x1, x2, x3, fun x hx => ⟨(x4 x hx).1.fp fp, (x4 x hx).2⟩, by rw [eR]; exact x5⟩, ⟨cv.1.cg fp (fun u hu => ⟨(oi.2.2.1 _ (mem u hu)).1.1, by omega⟩) (fun k => by rw [eR]) (fun u hu k hk => by rw [eR]) (fun o a e => e), cv.2⟩, fun x hx k hk o ho => by rw [eR] at ho ⊢; exact past x hx k hk o ho, n1, fun o => ?_, n3, n4, by rw [eN]; exact n5, by rw [eN, eC]; exact n6, by rw [eN, eS]; exact n7⟩
  · unfold CFd at cd ⊢
    rw [eI 146 (fun z => (hp 146 z).1 rfl)]; exact cd
  · unfold mx_kd
    rw [eN, eK]
    exact n2 o
/-- what remember, undo and the like leave alone -/
def KpF (h h1 : mxH) : Prop := FP h h1 ∧ (∀ b, b < hpN h → hpK h b ≠ 5 → b ≠ 131 → b ≠ 134 → ¬ (140 ≤ b ∧ b < 281 ∧ b ≠ 160) → (b ≠ 128 → hpI h1 b = hpI h b) ∧ hpL h1 b = hpL h b) ∧ (∀ k, k ≠ 7 → hpI h1 128 k = hpI h 128 k) ∧ ∀ b k, b < hpN h → hpK h b ≠ 5 → hpK h b ≠ 18 → (b ≠ 135 ∨ k ≠ 0) → b ≠ 160 → hpR h1 b k = hpR h b k
theorem PsA.cg {c : Nat} (a : PsA h pi c) (e1 : hpI h1 128 7 = hpI h 128 7) (e2 : hpR h1 160 = hpR h 160) : PsA h1 pi c := ⟨by rw [e1]; exact a.1, a.2.1, fun j hj => by rw [e2]; exact a.2.2.1 j hj, a.2.2.2⟩
theorem x_rem56 (hd : 6 ≤ d) (i : IDW D B h n w F jl XL FS VS OS) (bk : BK h) {P : List cSn} (pa : PsA h pi P.length) (hc : P.length < 6) (hq : ∀ k (hk : k < P.length), WQ D h (161 + 20 * pi k) P[k].1 P[k].2.1 P[k].2.2) :
    mx_SX mY_X11_remember d 56 [(0, .ref 128)] [] h (fun x h1 => x = .inl none ∧ KpF h h1 ∧ PsA h1 pi (P ++ [(w, F, jl)]).length ∧ (∀ k (hk : k < (P ++ [(w, F, jl)]).length), WQ D h1 (161 + 20 * pi k) (P ++ [(w, F, jl)])[k].1 (P ++ [(w, F, jl)])[k].2.1 (P ++ [(w, F, jl)])[k].2.2) ∧ ∃ n' OS', n' ≤ 2880 ∧ IDW D B h1 n' w F jl XL FS VS OS') := by
  have s0 := i.1
  have N := s0.1
  obtain ⟨p1, p2, p3, p4⟩ := pa
  obtain ⟨pl, pr⟩ := p3 P.length hc
  have wb : WB h (161 + 20 * pi P.length) := s0.2.2.2 _ (pw_in pl).2
  refine b_X11_remember_56 128 ⟨sc_k128 s0, ?_⟩
  rw [p1]
  refine ⟨fun c => absurd c (nI_pos (by omega)), fun _ => ⟨160, sc_r128_6 s0, sc_k160 s0, by rw [sc_z160 s0]; exact vp_in_nI hc (by decide), 140, sc_r128_5 s0, 161 + 20 * pi P.length, by rw [nI_clamp (by omega)]; exact pr, by omega, wb.k0, (x_keep (d := d - 1) (by omega) i bk pl).mono ?_⟩⟩
  rintro x h1 ⟨rfl, f, q1, oth, z, y, OS', i1⟩
  have s1 := i1.1
  have k128 : hpI h1 128 = hpI h 128 := (f.2.2.2.1 128 (by omega) (by rw [sc_k128 s0]; decide) (by unfold wblk; omega)).1
  have r160 : hpR h1 160 = hpR h 160 := by funext k; exact f.2.2.2.2.1 160 k (by omega) (by rw [sc_k160 s0]; decide) (by rw [sc_k160 s0]; decide) (Or.inl (by decide))
  refine Or.inl ⟨rfl, sc_k128 s1, ?_⟩
  intro h2 e2
  rw [k128, p1, nI_1] at e2
  obtain ⟨x2, y2⟩ := xs_I e2
  have hp2 : ∀ b, (b = 128) → b < 132 ∧ hpK h1 b ≠ 5 := fun b hb => by
    rw [hb, sc_k128 s1]; decide
  have s2 := s1.fp x2.fp
  have cu2 : CU h2 n := i1.2.2.2.2.2.1.keep s1 (x2.toX (p := fun b => b = 128) (fun b hb => hb) (fun b hb => hb.elim)) (fun b h1 h2 => by omega)
  have wq2 : WQ D h2 140 w F jl := i1.2.1.exl s1 (by decide) x2 hp2
  have i2 : IDW D B h2 n w F jl XL FS VS OS' := i1.exl x2 (fun b hb => by rw [hb]; exact ⟨by decide, by rw [sc_k128 s1]; decide⟩) wq2 cu2
  have len : (P ++ [(w, F, jl)]).length = P.length + 1 := by rw [List.length_append]; rfl
  have pa2 : PsA h2 pi (P ++ [(w, F, jl)]).length := ⟨by rw [y2, fup_e, len], by rw [len]; omega, fun j hj => by rw [x2.2.2.2.2.2.1, r160]; exact p3 j hj, p4⟩
  have hq2 : ∀ k (hk : k < (P ++ [(w, F, jl)]).length), WQ D h2 (161 + 20 * pi k) (P ++ [(w, F, jl)])[k].1 (P ++ [(w, F, jl)])[k].2.1 (P ++ [(w, F, jl)])[k].2.2 := fun k hk => by
    rw [len] at hk
    refine WQ.exl s1 ?_ (by omega) x2 hp2
    by_cases c : k < P.length
    · rw [List.getElem_append_left c]
      exact oth (pi k) (p3 k (by omega)).1 (fun e => by have := p4 k P.length (by omega) hc e; omega) D _ _ _ (hq k c)
    · obtain rfl : k = P.length := by omega
      rw [List.getElem_append_right (Nat.le_refl _)]
      simp only [Nat.sub_self, List.getElem_cons_zero]
      exact q1
  refine (x_rem89 (by omega) s2 cu2 pa2 hq2).mono ?_
  rintro x h3 ⟨rfl, L, l1, l2, l3⟩
  have hL : ∀ j ∈ L, j < 3200 ∧ hpI h3 134 j = 1 := fun j hj => ⟨(l2.2.2.2.1 j hj).1, (l2.2.2.2.1 j hj).2.1⟩
  have wq3 := fun k (hk : k < (P ++ [(w, F, jl)]).length) => (hq2 k hk).mark s2 (by omega) l2.1 (l3 k hk).1 (l3 k hk).2.1 (l3 k hk).2.2.1 (l3 k hk).2.2.2 hL
  have nl := l3 P.length (by rw [len]; omega)
  rw [show (P ++ [(w, F, jl)])[P.length] = (w, F, jl) by
    rw [List.getElem_append_right (Nat.le_refl _)]
    simp only [Nat.sub_self, List.getElem_cons_zero]] at nl
  obtain ⟨n3, n4, n5, n9⟩ := nl
  have I2 : ∀ b, b ≠ 128 → hpI h2 b = hpI h1 b := fun b hb => x2.2.2.2.2.2.2.1 b hb
  have w140 := sc_w s0
  have I1 : ∀ i, i = 3 ∨ i = 4 ∨ i = 5 ∨ i = 9 → hpI h1 (140 + i) = hpI h (140 + i) := fun i hi => (f.2.2.2.1 _ (by omega) (by
    rcases hi with rfl | rfl | rfl | rfl
    · rw [w140.k3]; decide
    · rw [w140.k4]; decide
    · rw [w140.k5]; decide
    · rw [show 140 + 9 = 140 + 6 + 3 from rfl, w140.sb.k3]; decide) (by unfold wblk; omega)).1
  obtain ⟨-, -, y3, y4, y5, -⟩ := y
  obtain ⟨⟨-, z2⟩, -⟩ := z
  have main3 : WQ D h3 140 w F jl := by
    have wq2' := wq2
    obtain ⟨⟨s, -, ⟨⟨-, a2, a3⟩, ⟨-, b2, -⟩, ⟨-, c2, -⟩, -⟩⟩, -, ⟨⟨-, v2, -⟩, -⟩, -⟩ := wq2'
    refine wq2.mark s2 (by decide) l2.1 (fun i hi him k hk => ?_) (fun k hk => ?_) (fun k hk => ?_) (fun k hk => ?_) hL
    · obtain ⟨j, e, hj⟩ := n3 i hi him k hk
      have := (a3 i hi).2.2.1
      exact ⟨j, by rw [I2 _ (by decide), I1 3 (by omega), ← y3 _ (by omega), ← I2 _ (by omega)]; exact e, hj⟩
    · obtain ⟨j, e, hj⟩ := n4 k hk
      exact ⟨j, by rw [I2 _ (by decide), I1 4 (by omega), ← y4 _ (by omega), ← I2 _ (by omega)]; exact e, hj⟩
    · obtain ⟨j, e, hj⟩ := n5 k hk
      exact ⟨j, by rw [I2 _ (by decide), I1 5 (by omega), ← y5 _ (by omega), ← I2 _ (by omega)]; exact e, hj⟩
    · obtain ⟨j, e, hj⟩ := n9 k hk
      refine ⟨j, ?_, hj⟩
      rw [I2 _ (by decide), I1 9 (by omega), show hpI h (140 + 9) k = hpI h1 (161 + 20 * pi P.length + 6 + 3) k from ((z2 k hk).2).symm, ← I2 _ (by omega)]
      exact e
  have hp3 : ∀ b, pMK b → b ≠ 146 ∧ hpK h2 b ≠ 5 := fun b hb => by
    rcases hb with rfl | rfl
    · exact ⟨by decide, sc_ne5b s2 (by decide)⟩
    · exact ⟨by decide, sc_ne5 s2 (by decide)⟩
  have I3 : ∀ b, b ≠ 131 → b ≠ 134 → hpI h3 b = hpI h2 b := fun b q1 q2 => l2.1.2.2.2.2.2.2.1 b (fun c => c.elim q1 q2)
  refine ⟨rfl, ⟨(f.1.tr x2.fp).tr l2.1.fp, fun b hb hk q1 q2 q3 => ?_, fun k hk => ?_, fun b k hb q1 q2 q3 q4 => ?_⟩, pa2.cg (by rw [I3 128 (by decide) (by decide)]) (congrFun l2.1.2.2.2.2.2.1 160), wq3, L.length, OS', by rw [len] at l1; omega, i2.exl l2.1 hp3 main3 (l2.cu cu2)⟩
  · have t := f.2.2.2.1 b hb hk (by unfold wblk; omega)
    exact ⟨fun n128 => by rw [I3 b q1 q2, I2 b n128]; exact t.1, by rw [l2.1.2.2.2.2.2.2.2 b id, x2.2.2.2.2.2.2.2 b id]; exact t.2⟩
  · rw [I3 128 (by decide) (by decide), y2, fup_n hk, k128]
  · rw [l2.1.2.2.2.2.2.1, x2.2.2.2.2.2.1]
    exact f.2.2.2.2.1 b k hb q1 q2 q3
end MXK2
