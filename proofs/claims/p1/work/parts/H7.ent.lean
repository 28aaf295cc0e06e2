/-! A level more, a level less -/
section MXE7
variable {C : cC} {h h1 h2 h6 : mxH} {s s' d t k sl o c i p p' n fl pu pq : Nat} {v bh : Int32} {w w' : spW} {A A' A2 : Nat → Option Nat} {G G' G2 : List cE} {T : List cT} {Ks : List spH} {P P' : cP} {cur cur' : Option Nat} {pl rn : Int32} {XL XL' FS FS' VS VS' OS OS' inh inh' RS RS' : List Nat} {D : pmC} {e : cE} {x y x2 : Nat} {fh hs : spH} {f f' F1 : spF} {en en' en2 : Bool} {jb jb' js js' : List spJ} {jl jl' : List Nat} {fr fr' : List pmF} {K : List (pmU × pmL)} {Z : List cZ} {m1 : pmM} {ex : Nat → Prop} {oh : Option Nat} {bg : Bool} {l : spL} {as : List spL}
theorem cJs_cons {j : spJ} : cJs (j :: jb) (y :: jl) = if j.1 = 0 then (y, (j.2.2.2, false, []), []) :: cJs jb jl else cJs jb jl := by
  unfold cJs
  rw [List.zip_cons_cons, List.filterMap_cons]
  by_cases c : j.1 = 0
  · simp only [if_pos c]
  · simp only [if_neg c]
theorem cJs_none : ∀ (jb : List spJ) (jl : List Nat), (∀ j ∈ jb, j.1 ≠ 0) → cJs jb jl = []
  | [], _, _ => rfl
  | _ :: _, [], _ => rfl
  | j :: jb, y :: jl, h => by
    rw [cJs_cons, if_neg (h j List.mem_cons_self)]
    exact cJs_none jb jl (fun z hz => h z (List.mem_cons_of_mem _ hz))
theorem pmFw_none (e : pmFw jb = none) : ∀ j ∈ jb, j.1 ≠ 0 := fun j hj => by
  have := List.findIdx?_eq_none_iff.mp e j hj
  simp only [decide_eq_false_iff_not] at this
  exact this
theorem cJs_set : ∀ (jb : List spJ) (jl : List Nat) (i : Nat) (q : spJ), (∀ j, jb[i]? = some j → j.1 ≠ 0) → q.1 ≠ 0 → cJs (jb.set i q) jl = cJs jb jl
  | [], _, _, _, _, _ => rfl
  | _ :: _, [], _, _, _, _ => by unfold cJs; rw [List.zip_nil_right, List.zip_nil_right]
  | j :: jb, y :: jl, 0, q, h1, h2 => by
    rw [List.set_cons_zero, cJs_cons, cJs_cons, if_neg h2, if_neg (h1 j rfl)]
  | j :: jb, y :: jl, i + 1, q, h1, h2 => by
    rw [List.set_cons_succ, cJs_cons, cJs_cons, cJs_set jb jl i q (fun z hz => h1 z hz) h2]
theorem cJs_take : ∀ (jb : List spJ) (jl : List Nat) (i : Nat) (j : spJ), jb[i]? = some j → j.1 = 0 → jl[i]? = some y → ∀ q : spJ, q.1 ≠ 0 → (cJs jb jl).Perm ((y, (j.2.2.2, false, []), []) :: cJs (jb.set i q) jl)
  | [], _, _, _, h, _, _, _, _ => nomatch h
  | _ :: _, [], _, _, _, _, h, _, _ => nomatch h
  | j0 :: jb, y0 :: jl, 0, j, h1, h2, h3, q, h4 => by
    have e1 : j0 = j := Option.some.inj h1
    have e2 : y0 = y := Option.some.inj h3
    subst e1
    subst e2
    rw [List.set_cons_zero, cJs_cons, cJs_cons, if_pos h2, if_neg h4]
  | j0 :: jb, y0 :: jl, i + 1, j, h1, h2, h3, q, h4 => by
    have ih := cJs_take jb jl i j h1 h2 h3 q h4
    rw [List.set_cons_succ, cJs_cons, cJs_cons]
    split
    · exact (ih.cons _).trans (List.Perm.swap _ _ _)
    · exact ih
theorem cJs_snoc : ∀ (jb : List spJ) (jl : List Nat) (j : spJ), jl.length = jb.length → j.1 = 0 → (cJs (jb ++ [j]) (jl ++ [y])) = cJs jb jl ++ [(y, (j.2.2.2, false, []), [])]
  | [], [], j, _, h => by
    show cJs [j] [y] = [(y, (j.2.2.2, false, []), [])]
    rw [cJs_cons, if_pos h]; rfl
  | [], _ :: _, _, h, _ => nomatch h
  | _ :: _, [], _, h, _ => nomatch h
  | j0 :: jb, y0 :: jl, j, h, h2 => by
    have ih := cJs_snoc jb jl j (by rw [List.length_cons, List.length_cons] at h; omega) h2
    rw [List.cons_append, List.cons_append, cJs_cons, cJs_cons, ih]
    split <;> rfl
theorem cG_cons {z : cZ} : cG (z :: Z) = cZe z ++ cG Z := List.flatMap_cons ..
theorem cG_mem {z : cZ} (hz : z ∈ Z) : (z.1, (z.2.1.1, z.2.1.2.1, z.2.1.2.2.1), z.2.2) ∈ cG Z := List.mem_flatMap.mpr ⟨z, hz, List.mem_cons_self⟩
/-- a shell begins to execute -/
theorem CMn.ent (k : CKr P x Z K) (fA : FrA P A w ((x, (f, en, js, fr), jl) :: Z)) (nd : (pnF fr ++ pnZ Z).Nodup) (g : CG C h s w A ((y, (F1, false, []), []) :: G2) ((7, bh, nI pu, nI i) :: (fr.map tfR ++ TFk K)) (tsv fr ++ TSK K) P' (some y) (nI p) 1 XL FS VS OS [])
    (pm : G2.Perm ((x, (f, en, js), jl) :: (cJs js jl ++ cG Z))) (h1 : (P' y).1 = some x) (h2 : (P' y).2.1 = nI ((fr.map tfR ++ TFk K).length + 1)) (hPo : ∀ z, z ≠ y → P' z = P z) (uok : UOK ((bh, pu, i), (f, en, js, fr))) : CMn C h s (w, p, (F1, false, [], []), ((bh, pu, i), (f, en, js, fr)) :: K) := by
  have nds := g.2.2.2.2.2.1.2.1
  rw [List.map_cons, List.cons_append] at nds
  have ny : ∀ e ∈ G2, e.1 ≠ y := fun e he c => (List.nodup_cons.mp nds).1 (List.mem_append_left _ (List.mem_map.mpr ⟨e, he, c⟩))
  have nx : x ≠ y := ny _ (pm.mem_iff.mpr List.mem_cons_self)
  have nz : ∀ z ∈ Z, z.1 ≠ y := fun z hz => ny _ (pm.mem_iff.mpr (List.mem_cons_of_mem _ (List.mem_append_right _ (cG_mem hz))))
  refine ⟨A, y, [], (x, (f, en, js, fr), jl) :: Z, P', XL, FS, VS, OS, ?_, ⟨_, K, rfl, rfl, h1, ?_, uok, ?_⟩, fun z hz => ?_, ?_⟩
  · have pm2 : ((y, (F1, false, []), []) :: G2).Perm ((y, (F1, false, []), []) :: (cJs [] [] ++ cG ((x, (f, en, js, fr), jl) :: Z))) := by
      refine List.Perm.cons _ ?_
      rw [cG_cons]
      exact pm
    exact g.pm pm2
  · rw [h2, List.length_append, List.length_map, TFk_len]
    congr 1
    show _ = 1 + fr.length + nFK K
    omega
  · exact k.cg (by rw [hPo x nx]) (by rw [hPo x nx]) (fun z hz => by rw [hPo z.1 (nz z hz)]; exact ⟨rfl, rfl⟩)
  · rcases List.mem_cons.mp hz with rfl | hz
    · exact ⟨Nat.zero_le _, fun q hq => absurd hq List.not_mem_nil⟩
    · have c := fA z hz
      have nn : z.1 ≠ y := by
        rcases List.mem_cons.mp hz with rfl | hz
        · exact nx
        · exact nz z hz
      exact ⟨c.1, fun q hq => (c.2 q hq).mono (ex := fun _ => False) WGr.rf (by rw [hPo z.1 nn]) (fun _ _ _ c => c)⟩
  · rw [pnZ_cons, pnZ_cons]
    exact nd
/-- a job's shell begins to execute -/
theorem s_runJob (hd : 3 ≤ d) (k : CKr P x Z K) (fA : FrA P A w ((x, (f, en, js, fr), jl) :: Z)) (nd : (pnF fr ++ pnZ Z).Nodup) (g : CG C h s w A ((x, (f, en, js), jl) :: (cJs js jl ++ cG Z)) (fr.map tfR ++ TFk K) (tsv fr ++ TSK K) P (some x) (nI pq) 1 XL FS VS OS []) (hl : fr.length + nFK K ≤ 2900) (hpq : pq < 2 ^ 31) (hpu : pu = 2 ∨ pu = 3) {j : spJ} (hj : js[i]? = some j) (hw : j.1 = 0) :
    mx_SM mY_X4_runJob d [.ref 282, .int (nI i), .int (nI pu), .int (if bg = true then 1 else 0)] h (fun r h1 => r = .inl (some (.int 1)) ∧ ∀ s', s ≤ s' → CMn C h1 s' (w, kPl (kcD C) j.2.2.1, (vG j.2.2.2 bg, false, [], []), ((nI pq, pu, i), (f, en, js.set i (2, j.2), fr)) :: K)) := by
  obtain ⟨il, ej⟩ := List.getElem?_eq_some_iff.mp hj
  obtain ⟨c1, c2, c3, c4, c5⟩ := g.cj
  have ey : jl[i]? = some (jl[i]'(by omega)) := List.getElem?_eq_getElem (by omega)
  generalize jl[i]'(by omega) = y at ey
  have tk := cJs_take js jl i j hj hw ey (2, j.2) (fun c => nomatch c)
  have pm : (cJs js jl ++ cG Z).Perm ((y, (j.2.2.2, false, []), []) :: (cJs (js.set i (2, j.2)) jl ++ cG Z)) := tk.append_right _
  refine (g_runJob (bg := bg) (pu := nI pu) hd g il (by rw [ej]; exact hw) ey pm (by rw [List.length_append, List.length_map, TFk_len]; omega)).mono ?_
  rintro r h1 ⟨rfl, g1⟩
  rw [ej] at g1
  refine ⟨rfl, fun s' hs' => CMn.ent (P' := fup P y (some x, nI ((fr.map tfR ++ TFk K).length + 1), (P y).2.2)) k (fun z hz => ?_) nd (g1.sm hs') (List.Perm.refl _) (by rw [fup_e]) (by rw [fup_e]) (fun z hz => fup_n hz) ⟨⟨pq, hpq, rfl⟩, by show pu ≤ 3; omega, fun _ => ⟨(2, j.2), ?_, rfl⟩, fun c => ?_⟩⟩
  · rcases List.mem_cons.mp hz with rfl | hz
    · exact fA (x, (f, en, js, fr), jl) List.mem_cons_self
    · exact fA z (List.mem_cons_of_mem _ hz)
  · show (js.set i (2, j.2))[i]? = _
    rw [List.getElem?_set_self il]
  · have : pu = 1 := c
    omega
end MXE7
