/-! ALL OF THE CLASS'S CELLS, described beside the pure machine: CG. What a run keeps: cC (code, heap before the run, handles before it, lines named before it, the program's place and numbers) -/
section MXCG
abbrev cC : Type := pmC × mxH × spH × Nat × Nat × Nat × Nat × (Nat → Nat) × (Nat → Nat)
abbrev kcD (C : cC) : pmC := C.1
abbrev kcH (C : cC) : mxH := C.2.1
abbrev kcF (C : cC) : spH := C.2.2.1
abbrev kcN (C : cC) : Nat := C.2.2.2.1
abbrev kcG (C : cC) : Nat := C.2.2.2.2.1
abbrev kcC (C : cC) : Nat := C.2.2.2.2.2.1
abbrev kcA (C : cC) : Nat := C.2.2.2.2.2.2.1
abbrev kca (C : cC) : Nat → Nat := C.2.2.2.2.2.2.2.1
abbrev kcd (C : cC) : Nat → Nat := C.2.2.2.2.2.2.2.2
/-- what holds of the constants -/
def K0 (C : cC) : Prop := (∀ a, cstA a = true → hpK (kcH C) a ≠ 5) ∧ 365 ≤ hpN (kcH C) ∧ SGN (kcH C) ∧ PD (kcD C) (hpI (kcH C)) (hpL (kcH C)) (kcG C) (kcC C) (kcA C) (kca C) (kcd C) ∧ (kcG C = 289 ∨ kcG C = 304) ∧ kcN C ≤ 2890 ∧
  (∀ c, c < kcC C → ∀ i (hi : i < (kAr (kcD C) c).length), (kAr (kcD C) c)[i].1 = 0 → 0 < (kAr (kcD C) c)[i].2 ∧ fitW 12 (kAr (kcD C) c)[i].2) ∧ (∀ c, c < kcC C → ∀ r ∈ kRd (kcD C) c, r.1 = 3 → ∃ k, k < 10 ∧ r.2.2 = lN k) ∧ hpK (kcH C) 319 = 5 ∧ (∀ p, p < kZ (kcD C) → kSt (kcD C) p = 5 ∨ kSt (kcD C) p = 16 → kPl (kcD C) (kAn (kcD C) p) = p + 1) ∧ ∀ p, p < kZ (kcD C) → kSt (kcD C) p = 3 → ∃ k, k ≤ 12 ∧ kKd (kcD C) (kOp (kcD C) p) = nI k
/-- the shells: those that live (G), the free ones (FS), all (XL) -/
def CGs (D : pmC) (h : mxH) (A : Nat → Option Nat) (G : List cE) (XL FS : List Nat) : Prop := (∀ e ∈ G, CS D h A e) ∧ (G.map (fun e => e.1) ++ FS).Nodup ∧ (∀ x, x ∈ XL ↔ x ∈ G.map (fun e => e.1) ++ FS) ∧ aparT XL ∧ (∀ x ∈ XL, SB h x ∧ (x = 146 ∨ 365 ≤ x)) ∧ CFs (hpR h) (hpR h 282 8) FS
/-- who waits for whom, how many frames lie below, the status kept for the end -/
abbrev cP : Type := Nat → Option Nat × Int32 × Int32
def CGp (h : mxH) (G : List cE) (P : cP) : Prop := ∀ e ∈ G, hpR h e.1 13 = (P e.1).1 ∧ hpI h e.1 12 = (P e.1).2.1 ∧ hpI h e.1 11 = (P e.1).2.2
/-- frames, kept handles -/
def CGf (h : mxH) (A : Nat → Option Nat) (fh : spH) (T : List cT) (Ks : List spH) (VS : List Nat) : Prop := CT (hpI h 285) T ∧ hpI h 282 4 = nI T.length ∧ T.length ≤ 2950 ∧ CV h A VS Ks ∧ hpI h 282 6 = nI Ks.length ∧ (∀ v ∈ VS, 365 ≤ v) ∧ VS.Nodup ∧ ∀ k, k < 10 → RHc A (hpR h 288 k) (fh k)
/-- the machine's registers -/
def CGr (h : mxH) (g : Nat) (cur : Option Nat) (pl rn : Int32) : Prop := hpR h 282 10 = cur ∧ hpI h 282 11 = pl ∧ hpI h 282 12 = rn ∧ hpR h 282 9 = some g
/-- the worlds of the past -/
def CGq (h0 h : mxH) (A : Nat → Option Nat) : Prop := (∀ x ∈ pastX, ∀ k, k < 10 → hpR h (x + 9) k = hpR h0 (x + 9) k ∧ ∀ o, hpR h (x + 9) k = some o → A o = none ∧ ∀ c, c < 4 → hpI h o c = hpI h0 o c) ∧ ∀ v l, CLn h0 v l → CLn h v l
/-- what a run leaves alone -/
def FrD (h0 h : mxH) : Prop := FP h0 h ∧ ∀ a, cstA a = true → hpI h a = hpI h0 a ∧ hpL h a = hpL h0 a ∧ (hpK h0 a ≠ 18 → hpR h a = hpR h0 a)
def CG (C : cC) (h : mxH) (s : Nat) (w : spW) (A : Nat → Option Nat) (G : List cE) (T : List cT) (Ks : List spH) (P : cP) (cur : Option Nat) (pl rn : Int32) (XL FS VS OS inh : List Nat) : Prop :=
  K0 C ∧ FrD (kcH C) h ∧ WC h A s w ∧ OI h (cRS XL VS) inh ∧ CU h (kcN C + wM w) ∧ CGs (kcD C) h A G XL FS ∧ CGp h G P ∧ CGf h A (kcF C) T Ks VS ∧ CGr h (kcG C) cur pl rn ∧ CGq (kcH C) h A ∧ CN (kcH C) h XL VS OS (cRS XL VS) []
/-- the frames' row -/
def tfR (q : pmF) : cT := (if q.1 = 8 then 6 else nI q.1, q.2.1, if q.1 = 4 then 0 else q.2.2.1, q.2.2.2.1)
def TFk : List (pmU × pmL) → List cT
  | [] => []
  | u :: K => (7, u.1.1, nI u.1.2.1, nI u.1.2.2) :: (u.2.2.2.2.map tfR ++ TFk K)
def cTf (m : pmM) : List cT := m.2.2.1.2.2.2.map tfR ++ TFk m.2.2.2
/-- places of the levels against the pure machine's state -/
def CK (m : pmM) (Z : List cZ) (P : cP) (A : Nat → Option Nat) : Prop := Z.map (fun z => z.2.1) = pmLs m ∧
  (∀ z ∈ Z, ∀ q ∈ z.2.1.2.2.2, (q.1 = 1 ∨ q.1 = 2 ∨ q.1 = 3 ∨ q.1 = 4 ∨ q.1 = 5 ∨ q.1 = 6 ∨ q.1 = 8) ∧ (q.1 = 4 → (P z.1).2.2 = q.2.2.1) ∧ (q.1 = 6 → ∃ o pp, q.2.2.2.2.2 = some o ∧ q.2.2.2.1 = nI pp ∧ pp < (wU m.1).length ∧ (wO m.1)[o]? = some (5, pp, 0) ∧ ∀ x, A x ≠ some o)) ∧
  (∀ i (hi : i < Z.length), (P Z[i].1).1 = (Z[i + 1]?).map (fun q => q.1) ∧ (P Z[i].1).2.1 = nI (nFK (m.2.2.2.drop i))) ∧ (Z.getLast?).map (fun z => z.1) = some 146
def CMm (C : cC) (h : mxH) (s : Nat) (m : pmM) : Prop := ∃ A Z P XL FS VS OS, CG C h s m.1 A (cG Z) (cTf m) (cTS m) P (Z.head?.map fun z => z.1) (nI m.2.1) 1 XL FS VS OS [] ∧ CK m Z P A
variable {C : cC} {h h1 h2 : mxH} {s : Nat} {w w' : spW} {A A' : Nat → Option Nat} {G : List cE} {T : List cT} {Ks : List spH} {P : cP} {cur : Option Nat} {pl rn : Int32} {XL FS VS OS inh : List Nat} {D : pmC} {e : cE} {x : Nat} {fh : spH}
theorem RHc.mono {r y : Option Nat} (c : RHc A r y) (m : ∀ o a, A o = some a → A' o = some a) : RHc A' r y := by
  rcases c with c | ⟨o, a, c1, c2, c3⟩
  · exact Or.inl c
  · exact Or.inr ⟨o, a, c1, c2, m o a c3⟩
/-- a shell's cells stay -/
theorem CS.cg (c : CS D h A e) (fp : FP h h1) (eI : ∀ i, i < 13 → hpI h1 (e.1 + i) = hpI h (e.1 + i)) (eL : ∀ i, i < 13 → hpL h1 (e.1 + i) = hpL h (e.1 + i)) (eR : ∀ i, i < 13 → i ≠ 0 → ∀ k, k < 10 → hpR h1 (e.1 + i) k = hpR h (e.1 + i) k) (mA : ∀ o a, A o = some a → A' o = some a) (mL : ∀ v l, CLn h v l → CLn h1 v l) : CS D h1 A' e := by
  obtain ⟨c1, c2, c3, c4, c5, c6, c7, c8⟩ := c
  have e0 : hpI h1 e.1 = hpI h e.1 := eI 0 (by decide)
  refine ⟨c1.fp fp, c2.cg (fun i hi => eI i (by omega)) (fun i hi => eL i (by omega)) mL, fun k hk => ?_, ?_⟩
  · rw [eR 9 (by decide) (by decide) k hk]
    exact (c3 k hk).mono mA
  · unfold CJ
    rw [e0, eI 11 (by decide), eI 12 (by decide)]
    refine ⟨c4, c5, c6, c7, fun k hk hj => ?_⟩
    rw [eR 10 (by decide) (by decide) k (by omega)]
    exact c8 k hk hj
theorem CV.cg {l : List spH} (c : CV h A VS l) (fp : FP h h1) (hn : ∀ v ∈ VS, v + 1 < hpN h ∧ 135 < hpN h) (eR : ∀ k, hpR h1 286 k = hpR h 286 k) (eV : ∀ v ∈ VS, ∀ k, k < 10 → hpR h1 (v + 1) k = hpR h (v + 1) k) (mA : ∀ o a, A o = some a → A' o = some a) : CV h1 A' VS l := by
  obtain ⟨c1, c2, c3, c4, c5⟩ := c
  refine ⟨fun i hi => ⟨by rw [eR]; exact (c1 i hi).1, ?_⟩, fun i h1 h2 => by rw [eR]; exact c2 i h1 h2, c3, c4, fun i hi => ?_⟩
  · have m := List.getElem_mem (l := VS) hi
    obtain ⟨g1, g2, g3, g4, g5, g6⟩ := (c1 i hi).2
    have n := hn _ m
    have f1 := fp.2 VS[i] (by omega)
    have f2 := fp.2 (VS[i] + 1) n.1
    have f3 := fp.2 135 n.2
    exact ⟨by rw [f1.1]; exact g1, by rw [f1.2.2 0 (by rw [g1]; decide)]; exact g2, by rw [f1.2.2 1 (by rw [g1]; decide)]; exact g3, by rw [f3.1]; exact g4, by rw [f2.1]; exact g5, by rw [f2.2.1]; exact g6⟩
  · obtain ⟨v, e1, e2⟩ := c5 i hi
    exact ⟨v, e1, fun k hk => by rw [eV v (List.mem_of_getElem? e1) k hk]; exact (e2 k hk).mono mA⟩
theorem CFs.cg {R R' : Nat → Nat → Option Nat} : ∀ {r : Option Nat} {l : List Nat}, CFs R r l → (∀ y ∈ l, R' y 13 = R y 13) → CFs R' r l
  | _, [], c, _ => c
  | _, y :: l, ⟨c1, c2⟩, e => ⟨c1, by rw [e y List.mem_cons_self]; exact c2.cg (fun z hz => e z (List.mem_cons_of_mem _ hz))⟩
theorem FrD.tr (c : FrD h h1) (hn : 365 ≤ hpN h) (fp : FP h1 h2) (e : ∀ a, cstA a = true → hpI h2 a = hpI h1 a ∧ hpL h2 a = hpL h1 a ∧ (hpK h1 a ≠ 18 → hpR h2 a = hpR h1 a)) : FrD h h2 :=
  ⟨c.1.tr fp, fun a ha => ⟨(e a ha).1.trans (c.2 a ha).1, (e a ha).2.1.trans (c.2 a ha).2.1, fun hk => ((e a ha).2.2 (by rw [(c.1.2 a (by unfold cstA at ha; simp at ha; omega)).1]; exact hk)).trans ((c.2 a ha).2.2 hk)⟩⟩
end MXCG
