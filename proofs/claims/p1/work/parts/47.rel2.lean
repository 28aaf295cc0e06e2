/-! THE REFERENCE'S ROWS: moving from row to row -/
section MXRH
theorem hpI_rIs {h : mxH} {a : Nat} {f : Nat → Int32} : hpI (hrI h a f) a = f := by rw [hpI_rI, if_pos rfl]
theorem hpL_rLs {h : mxH} {a : Nat} {f : Nat → Int64} : hpL (hrL h a f) a = f := by rw [hpL_rL, if_pos rfl]
theorem fup_e {α : Type} {f : Nat → α} {k : Nat} {v : α} : fup f k v k = v := if_pos rfl
theorem fup_n {α : Type} {f : Nat → α} {k j : Nat} {v : α} (h : j ≠ k) : fup f k v j = f j := if_neg h
variable {ln ln' : Int32 → spL → Prop} {f f' : Nat → Int32} {g g' : Nat → Int64} {A A' B : Nat → Option Nat} {F : spF}
theorem RF.congr (h1 : ∀ k, k < 83 → f' k = f k) (h2 : ∀ k, k < 34 → g' k = g k) (r : RF ln f g F) : RF ln f' g' F := by
  obtain ⟨⟨a1, a2, a3⟩, ⟨b1, b2, b3⟩, c, d1, d2, d3, d4, d5, d6, d7, d8⟩ := r
  refine ⟨⟨(h1 0 (by omega)).trans a1, a2, fun k hk => ?_⟩, ⟨(h1 21 (by omega)).trans b1, b2, fun k hk => ?_⟩, fun k hk => (h2 _ (by omega)).trans (c k hk), (h1 _ (by omega)).trans d1, (h1 _ (by omega)).trans d2, (h1 _ (by omega)).trans d3, (h1 _ (by omega)).trans d4, (h1 _ (by omega)).trans d5, d6, (h1 _ (by omega)).trans d7, d8⟩
  · rw [h2 k (by omega), h1 (1 + k) (by omega)]; exact a3 k hk
  · rw [h2 (20 + k) (by omega), h1 (22 + k) (by omega)]; exact b3 k hk
theorem RF.mono (r : RF ln f g F) (hm : ∀ k, k < (f 0).toNatClampNeg → ∀ l, ln (f (1 + k)) l → ln' (f (1 + k)) l) : RF ln' f g F := by
  obtain ⟨⟨a1, a2, a3⟩, b⟩ := r
  refine ⟨⟨a1, a2, fun k hk => ⟨(a3 k hk).1, hm k ?_ _ (a3 k hk).2⟩⟩, b⟩
  rw [a1, nI_clamp (by omega)]; exact hk
theorem RFh.congr {hs : spH} (h1 : ∀ k, k < 10 → f' (36 + k) = f (36 + k)) (r : RFh A f hs) : RFh A f' hs := fun k hk => by rw [h1 k hk]; exact r k hk
theorem RHv.mono {v : Int32} {x : Option Nat} (hm : ∀ o a, v = nI o → A o = some a → A' o = some a) (r : RHv A v x) : RHv A' v x := by
  rcases r with r | ⟨o, a, r1, r2, r3, r4⟩
  · exact Or.inl r
  · exact Or.inr ⟨o, a, r1, r2, r3, hm o a r2 r4⟩
theorem RFh.mono {hs : spH} (r : RFh A f hs) (hm : ∀ k, k < 10 → ∀ o a, f (36 + k) = nI o → A o = some a → A' o = some a) : RFh A' f hs := fun k hk => (r k hk).mono (hm k hk)
theorem RJ.congr {e : Bool} {jb : List spJ} {js : List Nat} (h1 : ∀ k, k < 82 → f' k = f k) (r : RJ f e jb js) : RJ f' e jb js := by
  obtain ⟨a, b, c, d, q⟩ := r
  refine ⟨(h1 _ (by omega)).trans a, (h1 _ (by omega)).trans b, c, d, fun k hk hj => ?_⟩
  obtain ⟨q1, q2, q3, q4, q5⟩ := q k hk hj
  exact ⟨(h1 _ (by omega)).trans q1, q2, (h1 _ (by omega)).trans q3, (h1 _ (by omega)).trans q4, (h1 _ (by omega)).trans q5⟩
/-- rows that differ at shell s alone -/
def offS (f f' : Nat → Int32) (s : Nat) : Prop := ∀ s' k, s' ≠ s → k < 83 → f' (83 * s' + k) = f (83 * s' + k)
def offN (f f' : Nat → Int64) (s : Nat) : Prop := ∀ s' k, s' ≠ s → k < 34 → f' (34 * s' + k) = f (34 * s' + k)
theorem offS.rf {s : Nat} : offS f f s := fun _ _ _ _ => rfl
theorem offN.rf {s : Nat} : offN g g s := fun _ _ _ _ => rfl
theorem offS.up {s j : Nat} {v : Int32} (o : offS f f' s) (hj : j < 83) : offS f (fup f' (83 * s + j) v) s := fun s' k h1 h2 => by
  rw [fup_n (by omega)]; exact o s' k h1 h2
theorem offN.up {s j : Nat} {v : Int64} (o : offN g g' s) (hj : j < 34) : offN g (fup g' (34 * s + j) v) s := fun s' k h1 h2 => by
  rw [fup_n (by omega)]; exact o s' k h1 h2
theorem RE.upd {G : List spE} {s : Nat} {S S' : spS} {js js' : List Nat} (r : RE ln A f g ((s, S, js) :: G)) (o1 : offS f f' s) (o2 : offN g g' s) (o3 : f' (83 * s + 82) = 1)
    (n1 : RF ln (shR f' s) (shN g' s) S'.1) (n2 : RFh A (shR f' s) (fH S'.1)) (n3 : RJ (shR f' s) S'.2.1 S'.2.2 js') : RE ln A f' g' ((s, S', js') :: G) := by
  obtain ⟨r1, r2, r3⟩ := r
  refine ⟨fun e he => ?_, r2, fun s' h1 h2 => ?_⟩
  · rcases List.mem_cons.mp he with rfl | hm
    · exact ⟨(r1 _ List.mem_cons_self).1, o3, n1, n2, n3⟩
    · have ne : e.1 ≠ s := fun q => by
        have := (List.nodup_cons.mp r2).1
        exact this (List.mem_map.mpr ⟨e, hm, q⟩)
      obtain ⟨a1, a2, a3, a4, a5⟩ := r1 e (List.mem_cons_of_mem _ hm)
      exact ⟨a1, (o1 _ _ ne (by omega)).trans a2, a3.congr (fun k hk => o1 _ _ ne hk) (fun k hk => o2 _ _ ne hk), a4.congr (fun k hk => o1 _ _ ne (by omega)), a5.congr (fun k hk => o1 _ _ ne (by omega))⟩
  · by_cases c : s' = s
    · rw [c]; exact List.mem_cons_self
    · exact r3 s' h1 (by rw [← o1 _ _ c (by omega)]; exact h2)
/-- what holds of the own shell and of what is in hand -/
def ROwn (ln : Int32 → spL → Prop) (A : Nat → Option Nat) (h : mxH) (s : Nat) (S : spS) (js : List Nat) (V : List (Option (Option Nat))) (N : spN) : Prop :=
  RF ln (shR (hpI h 354) s) (shN (hpL h 355) s) S.1 ∧ RFh A (shR (hpI h 354) s) (fH S.1) ∧ RJ (shR (hpI h 354) s) S.2.1 S.2.2 js ∧ RV A (hpI h 352) (hpI h 320 69) V ∧ (∀ q ∈ N.1, ln q.1 q.2) ∧ ∀ q ∈ N.2.1, RHv A q.1 (some q.2)
theorem RG.row {h0 h : mxH} {w : spW} {G : List spE} {s : Nat} {S S' : spS} {js js' : List Nat} {V : List (Option (Option Nat))} {P : List spX} {N : spN} {n m xs : Nat} (r : RG h0 h w ((s, S, js) :: G) V P N n m xs)
    (o1 : offS (hpI h 354) f s) (o2 : offN (hpL h 355) g s) (o3 : f (83 * s + 82) = 1)
    (nw : ∀ ln A, ROwn ln A h s S js V N → RF ln (shR f s) (shN g s) S'.1 ∧ RFh A (shR f s) (fH S'.1) ∧ RJ (shR f s) S'.2.1 S'.2.2 js')
    (c1 : ∀ L : Int32 → Prop, RCs (shR (hpI h 354) s) L → (∀ q ∈ N.1, L q.1) → RCs (shR f s) L)
    (c2 : s ≠ xs → ∀ L : Int32 → Prop, (∀ k, k < 10 → L (hpI h 354 (83 * s + 36 + k))) → (∀ k, k < V.length → L (hpI h 352 k)) → (∀ q ∈ N.2.1, L q.1) → ∀ k, k < 10 → L (f (83 * s + 36 + k))) :
    RG h0 (hrL (hrI h 354 f) 355 g) w ((s, S', js') :: G) V P N n m xs := by
  obtain ⟨A, B, Qs, fr, sr, hw, ht, ho, hp, he, hv, hk, hc, hd, hz, hN⟩ := r
  obtain ⟨a1, a2, a3, a4, a5⟩ := he.1 _ List.mem_cons_self
  obtain ⟨w1, w2, w3⟩ := nw (RLn h) A ⟨a3, a4, a5, hv, hN.1, hN.2.1⟩
  refine ⟨A, B, Qs, (fr.rI rfl).rL rfl, sr, hw, ht, ho, hp, he.upd o1 o2 o3 w1 w2 w3, hv, hk, ?_, ?_, hz, hN⟩
  · obtain ⟨Lr, l1, l2, l3, l4, l5, l6⟩ := hc
    refine ⟨Lr, l1, l2, fun s' h1 h2 => ?_, l4, l5, l6⟩
    by_cases c : s' = s
    · rw [c]; exact c1 _ (l3 s a1 a2) l6
    · have e : f (83 * s' + 82) = 1 := h2
      rw [o1 _ _ c (by omega)] at e
      intro k hk
      have h0 := o1 s' 0 c (by omega)
      have hk' : k < (hpI h 354 (83 * s' + 0)).toNatClampNeg := by rw [← h0]; exact hk
      show f (83 * s' + (1 + k)) ∈ Lr
      by_cases ck : 1 + k < 83
      · rw [o1 s' (1 + k) c ck]; exact l3 s' h1 e k hk'
      · exfalso
        have hm := he.2.2 s' h1 e
        obtain ⟨q, q1, q2⟩ := List.mem_map.mp hm
        obtain ⟨-, -, z3, -, -⟩ := he.1 q q1
        have z := z3.1.1
        have z2 := z3.1.2.1
        rw [q2] at z
        have zz : hpI h 354 (83 * s' + 0) = nI (fV q.2.1.1).length := z
        rw [zz, nI_clamp (by omega)] at hk'
        omega
  · obtain ⟨Lo, l1, l2, l3, l4⟩ := hd
    refine ⟨Lo, l1, fun s' h1 h2 h3 => ?_, l3, l4⟩
    by_cases c : s' = s
    · subst c; exact c2 h2 (· ∈ Lo) (l2 s' a1 h2 a2) l3 l4
    · have e : f (83 * s' + 82) = 1 := h3
      rw [o1 _ _ c (by omega)] at e
      intro k hk
      have := o1 s' (36 + k) c (by omega)
      show f (83 * s' + 36 + k) ∈ Lo
      rw [show 83 * s' + 36 + k = 83 * s' + (36 + k) by omega, this, show 83 * s' + (36 + k) = 83 * s' + 36 + k by omega]
      exact l2 s' h1 h2 e k hk
theorem RG.sr {h0 h : mxH} {w : spW} {G : List spE} {V : List (Option (Option Nat))} {P : List spX} {N : spN} {n m xs : Nat} (r : RG h0 h w G V P N n m xs) : SR h := by
  obtain ⟨A, B, Qs, -, sr, -⟩ := r; exact sr
end MXRH
