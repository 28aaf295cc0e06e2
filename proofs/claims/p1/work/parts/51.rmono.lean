/-! THE REFERENCE'S ROWS: what stays when the store of lines changes -/
section MXMO
variable {ln ln' : Int32 → spL → Prop} {f : Nat → Int32} {g : Nat → Int64} {M : Int32 → Prop} {h0 h : mxH}
theorem RW.mono {w : spW} (r : RW ln f g w) (c : RCw f M) (hm : ∀ v l, M v → ln v l → ln' v l) : RW ln' f g w := by
  obtain ⟨⟨a1, a2, a3⟩, b, ⟨c1, c2, c3⟩, ⟨d1, d2, d3⟩⟩ := r
  refine ⟨⟨a1, a2, fun i hi => ?_⟩, fun i h1 h2 => ?_, ⟨c1, c2, fun k hk => ?_⟩, ⟨d1, d2, fun k hk => ?_⟩⟩
  · obtain ⟨e1, e2, e3, e4⟩ := a3 i hi
    refine ⟨e1, e2, e3, fun k hk => hm _ _ (c.1 i (by omega) k ?_) (e4 k hk)⟩
    rw [e2, nI_clamp (by omega)]; exact hk
  · obtain ⟨ls, e1, e2, e3⟩ := b i h1 h2
    refine ⟨ls, e1, e2, fun k hk => hm _ _ (c.1 i h2 k ?_) (e3 k hk)⟩
    rw [e1, nI_clamp (by omega)]; exact hk
  · refine hm _ _ (c.2.1 k ?_) (c3 k hk)
    rw [c1, nI_clamp (by omega)]; exact hk
  · refine hm _ _ (c.2.2 k ?_) (d3 k hk)
    rw [d1, nI_clamp (by omega)]; exact hk
theorem RF.mono2 {F : spF} (r : RF ln f g F) (c : RCs f M) (hm : ∀ v l, M v → ln v l → ln' v l) : RF ln' f g F := r.mono fun k hk l => hm _ _ (c k hk)
theorem RK.mono {x : spX} (r : RK ln f g x) (c : RCw f M) (c2 : RCs (fun k => f (471 + k)) M) (hm : ∀ v l, M v → ln v l → ln' v l) : RK ln' f g x :=
  ⟨r.1.mono c hm, r.2.1.mono2 c2 hm, r.2.2⟩
theorem RE.mono {A A' : Nat → Option Nat} {G : List spE} (r : RE ln A f g G) (c : ∀ s, s < 1000 → f (83 * s + 82) = 1 → RCs (shR f s) M) (hm : ∀ v l, M v → ln v l → ln' v l)
    (ha : ∀ s, s < 1000 → f (83 * s + 82) = 1 → ∀ k, k < 10 → ∀ o a, f (83 * s + 36 + k) = nI o → A o = some a → A' o = some a) : RE ln' A' f g G := by
  obtain ⟨r1, r2⟩ := r
  refine ⟨fun e he => ?_, r2⟩
  obtain ⟨a1, a2, a3, a4, a5⟩ := r1 e he
  exact ⟨a1, a2, a3.mono2 (c e.1 a1 a2) hm, a4.mono fun k hk o a h1 => ha e.1 a1 a2 k hk o a (by rw [← h1]; show _ = f (83 * e.1 + (36 + k)); congr 1; omega), a5⟩
theorem RP.mono {fi la ip ql qn : Nat → Int32} {qf : Int32} {B : Nat → Option Nat} {Qs : Nat → List Nat} {w : spW} (r : RP ln fi la ip ql qn qf B Qs w) (c : ∀ b, b < 400 → ∀ x ∈ Qs b, M (ql x)) (hm : ∀ v l, M v → ln v l → ln' v l) : RP ln' fi la ip ql qn qf B Qs w := by
  obtain ⟨fr, a1, a2, a3, a4, a5, a6, a7⟩ := r
  refine ⟨fr, a1, a2, a3, a4, a5, fun a b hb => ?_, a7⟩
  obtain ⟨b1, b2, b3, b4, b5⟩ := a6 a b hb
  exact ⟨b1, b2, b3, b4, fun k h1 h2 => hm _ _ (c b b2 _ (List.getElem_mem h1)) (b5 k h1 h2)⟩
theorem RC.sub {f sh ql pa : Nat → Int32} {Qs : Nat → List Nat} {D n : Nat} {X X' : List (Int32 × spL)} (r : RC f sh ql pa Qs D n X) (hx : ∀ q ∈ X', q ∈ X) : RC f sh ql pa Qs D n X' := by
  obtain ⟨Lr, l1, l2, l3, l4, l5, l6⟩ := r
  exact ⟨Lr, l1, l2, l3, l4, l5, fun q hq => l6 q (hx q hq)⟩
theorem RCo.sub {sh sv : Nat → Int32} {V m xs : Nat} {Y Y' : List (Int32 × Nat)} (r : RCo sh sv V m xs Y) (hy : ∀ q ∈ Y', q ∈ Y) : RCo sh sv V m xs Y' := by
  obtain ⟨Lo, l1, l2, l3, l4⟩ := r
  exact ⟨Lo, l1, l2, l3, fun q hq => l4 q (hy q hq)⟩
variable {w : spW} {G : List spE} {V : List (Option (Option Nat))} {P : List spX} {N : spN} {n m xs : Nat}
/-- less in hand -/
theorem RG.drop (r : RG h0 h w G V P N n m xs) {N' : spN} (h1 : ∀ q ∈ N'.1, q ∈ N.1) (h2 : ∀ q ∈ N'.2.1, q ∈ N.2.1) (h3 : ∀ q ∈ N'.2.2, q ∈ N.2.2) : RG h0 h w G V P N' n m xs := by
  obtain ⟨A, B, Qs, fr, sr, hw, ht, ho, hp, he, hv, hk, hc, hd, hz, hN⟩ := r
  exact ⟨A, B, Qs, fr, sr, hw, ht, ho, hp, he, hv, hk, hc.sub h1, hd.sub h2, hz, fun q hq => hN.1 q (h1 q hq), fun q hq => hN.2.1 q (h2 q hq), fun q hq => hN.2.2 q (h3 q hq)⟩
/-- the bounds may grow -/
theorem RG.up (r : RG h0 h w G V P N n m xs) {n' m' : Nat} (h1 : n ≤ n') (h2 : m ≤ m') : RG h0 h w G V P N n' m' xs := by
  obtain ⟨A, B, Qs, fr, sr, hw, ht, ho, hp, he, hv, hk, ⟨Lr, l1, l2⟩, ⟨Lo, o1, o2⟩, hz, hN⟩ := r
  exact ⟨A, B, Qs, fr, sr, hw, ht, ho, hp, he, hv, hk, ⟨Lr, ⟨by omega, l1.2⟩, l2⟩, ⟨Lo, by omega, o2⟩, hz, hN⟩
/-- the shells in another order -/
theorem RG.perm (r : RG h0 h w G V P N n m xs) {G' : List spE} (hp : G.Perm G') : RG h0 h w G' V P N n m xs := by
  obtain ⟨A, B, Qs, fr, sr, hw, ht, ho, hpp, ⟨e1, e2, e3⟩, hv, hk, hc, hd, hz, hN⟩ := r
  exact ⟨A, B, Qs, fr, sr, hw, ht, ho, hpp, ⟨fun e he => e1 e (hp.mem_iff.mpr he), (hp.map (fun e => e.1)).nodup_iff.mp e2, fun s h1 h2 => (hp.map (fun e => e.1)).mem_iff.mp (e3 s h1 h2)⟩, hv, hk, hc, hd, hz, hN⟩
/-- a list of numbers below n that has fewer than n leaves one out -/
theorem out_of : ∀ (n : Nat) (l : List Nat), l.length < n → ∃ i, i < n ∧ i ∉ l := by
  intro n
  induction n with
  | zero => intro l h; exact absurd h (Nat.not_lt_zero _)
  | succ n ih =>
    intro l h
    by_cases c : n ∈ l
    · obtain ⟨i, i1, i2⟩ := ih (l.erase n) (by have := List.length_pos_of_mem c; rw [List.length_erase_of_mem c]; omega)
      exact ⟨i, by omega, fun hm => i2 ((List.mem_erase_of_ne (by omega)).mpr hm)⟩
    · exact ⟨n, by omega, c⟩
/-- the lines that are named, as sweeping wants them -/
theorem VW_of {L : Int32 → Prop} {w : spW} {f f' : Nat → Int32} {p : Nat} (hf : ∀ k, f' (p + k) = f k) (r : RW (RLn h) f g w) (c : RCw f L) : VW L f' p := by
  obtain ⟨⟨a1, a2, a3⟩, b, ⟨c1, c2, c3⟩, ⟨d1, d2, d3⟩⟩ := r
  have one : ∀ q (ls : List spL), RLs (RLn h) f q ls → (∀ k, k < ls.length → L (f (q + k))) → Vld L f' (p + q) ls.length := fun q ls h1 h2 k hk => by
    obtain ⟨i, i1, i2, -⟩ := h1 k hk
    exact ⟨i, by rw [Nat.add_assoc, hf]; exact i1, i2, by rw [← i1]; exact h2 k hk⟩
  refine ⟨fun i hi => ?_, ⟨(wI w).length, c2, by rw [hf]; exact c1, one _ _ c3 fun k hk => c.2.1 k (by rw [c1, nI_clamp (by omega)]; exact hk)⟩, ⟨(wP w).length, d2, by rw [hf]; exact d1, one _ _ d3 fun k hk => c.2.2 k (by rw [d1, nI_clamp (by omega)]; exact hk)⟩⟩
  by_cases q : i < (wF w).length
  · obtain ⟨e1, e2, e3, e4⟩ := a3 i q
    refine ⟨_, e3, by rw [Nat.add_assoc, hf]; exact e2, ?_⟩
    rw [Nat.add_assoc]
    exact one _ _ e4 fun k hk => c.1 i hi k (by rw [e2, nI_clamp (by omega)]; exact hk)
  · obtain ⟨ls, e1, e2, e3⟩ := b i (by omega) hi
    refine ⟨_, e2, by rw [Nat.add_assoc, hf]; exact e1, ?_⟩
    rw [Nat.add_assoc]
    exact one _ _ e3 fun k hk => c.1 i hi k (by rw [e1, nI_clamp (by omega)]; exact hk)
theorem VF_of {L : Int32 → Prop} {F : spF} {f f' : Nat → Int32} {p : Nat} (hf : ∀ k, f' (p + k) = f k) (r : RF (RLn h) f g F) (c : RCs f L) : ∃ c, c ≤ 20 ∧ f' p = nI c ∧ Vld L f' (p + 1) c := by
  refine ⟨(fV F).length, r.1.2.1, by rw [← r.1.1, ← hf 0]; rfl, fun k hk => ?_⟩
  obtain ⟨i, i1, i2, -⟩ := (r.1.2.2 k hk).2
  exact ⟨i, by rw [Nat.add_assoc, hf]; exact i1, i2, by rw [← i1]; exact c k (by rw [r.1.1, nI_clamp (by have := r.1.2.1; omega)]; exact hk)⟩
end MXMO
