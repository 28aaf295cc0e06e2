/-! Machine.define; a function's cells -/
section MXDF
variable {h h1 h2 : mxH} {d x g c n : Nat} {l : Int32} {D : pmC} {F F1 : spF} {nc na : Nat} {fa fd : Nat → Nat} {ln ln' : Int32 → spL → Prop}
/-- a function's name and node -/
def dfn (F : spF) (k : Int64) (l : Int32) : Option spF := match tbF (fU F) k with
  | some _ => some (vU F (tbP (fU F) k l))
  | none => if 10 ≤ (fU F).length then none else some (vU F (tbP (fU F) k l))
/-- a function is defined -/
theorem CF.putU {ln : Int32 → spL → Prop} {k : Int64} {v : Int32} (cf : CF D ln h x F) (hv : v = nI (kPl D l)) (e : dfn F k l = some F1) : CF D ln (tb_put h (x + 4) (x + 5) (x + 6) (fU F).length k v) x F1 ∧ ((fU F).length < 10 ∨ 0 ≤ mx_ix (hpL h (x + 5)) k (fU F).length 0) := by
  obtain ⟨u, ⟨v1, v2, v3⟩, r⟩ := cf
  have ei := ix_tbF (f := hpL h (x + 5)) (k := k) (l := fU F) (fun j hj => (v3 j hj).1)
  unfold dfn at e
  rcases ej : tbF (fU F) k with _ | j
  · rw [ej] at e ei
    have e : (if 10 ≤ (fU F).length then none else some (vU F (tbP (fU F) k l))) = some F1 := e
    by_cases c : 10 ≤ (fU F).length
    · rw [if_pos c] at e; exact nomatch e
    · rw [if_neg c] at e
      obtain rfl := Option.some.inj e
      refine ⟨?_, Or.inl (by omega)⟩
      have et : tbP (fU F) k l = fU F ++ [(k, l)] := by unfold tbP; rw [ej]
      rw [tb_put, ei, et]
      rw [if_neg (show ¬ (0 : Int32) ≤ ixI none from by decide)]
      have f1 : hpI (hsI (hsI (hsL h (x + 5) (fU F).length k) (x + 4) 2 (nI ((fU F).length + 1))) (x + 6) (fU F).length v) (x + 4) 2 = nI ((fU F).length + 1) := by rw [hpI_sIn (by omega), hpI_sI, if_pos rfl, if_pos rfl]
      have f2 : hpL (hsI (hsI (hsL h (x + 5) (fU F).length k) (x + 4) 2 (nI ((fU F).length + 1))) (x + 6) (fU F).length v) (x + 5) = fup (hpL h (x + 5)) (fU F).length k := by
        show (if x + 5 = x + 5 then fup (hpL h (x + 5)) (fU F).length k else _) = _
        rw [if_pos rfl]
      have f3 : hpI (hsI (hsI (hsL h (x + 5) (fU F).length k) (x + 4) 2 (nI ((fU F).length + 1))) (x + 6) (fU F).length v) (x + 6) = fup (hpI h (x + 6)) (fU F).length v := by
        rw [hpI_sIe]
        congr 1
        funext j
        rw [hpI_sIn (by omega)]; rfl
      have fo : ∀ a, a ≠ x + 4 → a ≠ x + 6 → hpI (hsI (hsI (hsL h (x + 5) (fU F).length k) (x + 4) 2 (nI ((fU F).length + 1))) (x + 6) (fU F).length v) a = hpI h a := fun a h1 h2 => by
        funext j
        rw [hpI_sIn h2, hpI_sIn h1]; rfl
      have fl : ∀ a, a ≠ x + 5 → hpL (hsI (hsI (hsL h (x + 5) (fU F).length k) (x + 4) 2 (nI ((fU F).length + 1))) (x + 6) (fU F).length v) a = hpL h a := fun a h1 => by
        show (if a = x + 5 then fup (hpL h (x + 5)) (fU F).length k else hpL h a) = _
        rw [if_neg h1]
      generalize hsI (hsI (hsL h (x + 5) (fU F).length k) (x + 4) 2 (nI ((fU F).length + 1))) (x + 6) (fU F).length v = H at f1 f2 f3 fo fl ⊢
      have eL : (fU F ++ [(k, l)]).length = (fU F).length + 1 := by rw [List.length_append]; rfl
      unfold CF
      rw [fo x (by omega) (by omega), fo (x + 1) (by omega) (by omega), fo (x + 3) (by omega) (by omega), fl (x + 2) (by omega), fl (x + 7) (by omega), f2, f3]
      refine ⟨u, ⟨by rw [f1]; show _ = nI (fU F ++ [(k, l)]).length; rw [eL], by show (fU F ++ [(k, l)]).length ≤ 10; rw [eL]; omega, fun j hj => ?_⟩, r⟩
      have hj' : j < (fU F ++ [(k, l)]).length := hj
      show _ = (fU F ++ [(k, l)])[j].1 ∧ _ = nI (kPl D (fU F ++ [(k, l)])[j].2)
      by_cases q : j < (fU F).length
      · rw [List.getElem_append_left q, fup_n (by omega), fup_n (by omega)]
        exact v3 j q
      · have qe : j = (fU F).length := by rw [eL] at hj'; omega
        subst qe
        rw [List.getElem_append_right (Nat.le_refl _), fup_e, fup_e]
        simp only [Nat.sub_self, List.getElem_cons_zero]
        exact ⟨trivial, hv⟩
  · rw [ej] at e ei
    have e : some (vU F (tbP (fU F) k l)) = some F1 := e
    obtain rfl := Option.some.inj e
    obtain ⟨jl, jk⟩ := tbF_at ej
    have ei : mx_ix (hpL h (x + 5)) k (fU F).length 0 = nI j := ei
    have p0 : (0 : Int32) ≤ nI j := nI_pos' (by omega)
    refine ⟨?_, Or.inr (by rw [ei]; exact p0)⟩
    have et : tbP (fU F) k l = (fU F).set j (k, l) := by unfold tbP; rw [ej]
    rw [tb_put, ei, et]
    rw [if_pos p0, nI_clamp (by omega)]
    have f3 : hpI (hsI h (x + 6) j v) (x + 6) = fup (hpI h (x + 6)) j v := hpI_sIe
    have fo : ∀ a, a ≠ x + 6 → hpI (hsI h (x + 6) j v) a = hpI h a := fun a h2 => by
      funext j
      rw [hpI_sIn h2]
    have fl : hpL (hsI h (x + 6) j v) = hpL h := rfl
    generalize hsI h (x + 6) j v = H at f3 fo fl ⊢
    have eL : ((fU F).set j (k, l)).length = (fU F).length := List.length_set ..
    unfold CF
    rw [fo x (by omega), fo (x + 4) (by omega), fo (x + 1) (by omega), fo (x + 3) (by omega), fl, f3]
    refine ⟨u, ⟨by rw [v1]; show _ = nI ((fU F).set j (k, l)).length; rw [eL], by show ((fU F).set j (k, l)).length ≤ 10; rw [eL]; exact v2, fun i hi => ?_⟩, r⟩
    have hi' : i < ((fU F).set j (k, l)).length := hi
    have hil : i < (fU F).length := by rw [← eL]; exact hi'
    show _ = ((fU F).set j (k, l))[i].1 ∧ _ = nI (kPl D ((fU F).set j (k, l))[i].2)
    rw [List.getElem_set]
    by_cases q : j = i
    · subst q
      rw [if_pos rfl, fup_e]
      exact ⟨(v3 j jl).1.trans jk, hv⟩
    · rw [if_neg q, fup_n (fun c => q c.symm)]
      exact v3 i hil
/-- no place for one more function -/
theorem dfn_no {ln : Int32 → spL → Prop} {k : Int64} (cf : CF D ln h x F) (e : dfn F k l = none) : (fU F).length = 10 ∧ mx_ix (hpL h (x + 5)) k (fU F).length 0 = -1 := by
  obtain ⟨u, ⟨v1, v2, v3⟩, r⟩ := cf
  have ei := ix_tbF (f := hpL h (x + 5)) (k := k) (l := fU F) (fun j hj => (v3 j hj).1)
  unfold dfn at e
  rcases ej : tbF (fU F) k with _ | j
  · rw [ej] at e ei
    have e : (if 10 ≤ (fU F).length then none else some (vU F (tbP (fU F) k l))) = none := e
    by_cases c : 10 ≤ (fU F).length
    · exact ⟨by omega, ei⟩
    · rw [if_neg c] at e; exact nomatch e
  · rw [ej] at e
    have e : some (vU F (tbP (fU F) k l)) = none := e
    exact nomatch e
end MXDF
section MXDG
variable {C : cC} {h h1 h2 : mxH} {s s' d t k sl o v c i p : Nat} {w w' : spW} {A A' A2 : Nat → Option Nat} {G G' : List cE} {T : List cT} {Ks : List spH} {P : cP} {cur : Option Nat} {pl rn : Int32} {XL FS VS OS inh inh' RS RS' : List Nat} {D : pmC} {e : cE} {x : Nat} {fh hs : spH} {F F1 : spF} {en en' : Bool} {jb : List spJ} {js : List Nat} {l : List spH} {y : cT} {n : Int64}
theorem CG.putU {k : Int64} {v l : Int32} (g : CG C h s w A ((x, (F, en, jb), js) :: G) T Ks P cur pl rn XL FS VS OS inh) (hv : v = nI (kPl (kcD C) l)) (e : dfn F k l = some F1) : CG C (tb_put h (x + 4) (x + 5) (x + 6) (fU F).length k v) s w A ((x, (F1, en, jb), js) :: G) T Ks P cur pl rn XL FS VS OS inh := by
  obtain ⟨sx, hx⟩ := g.sb
  have wc := g.2.2.1
  have ex : ExL (fun b => b = x + 4 ∨ b = x + 6) (fun b => b = x + 5) h (tb_put h (x + 4) (x + 5) (x + 6) (fU F).length k v) := tb_put_ex
  obtain ⟨-, -, -, -, n4, n6⟩ := sb_ne5 sx
  have nn : ∀ o, A o ≠ none → ¬ (o = x + 4 ∨ o = x + 6) := fun o ho c => by
    rcases c with rfl | rfl
    · exact wc.2.2.2.nn n4 ho
    · exact wc.2.2.2.nn n6 ho
  have el : CLn (tb_put h (x + 4) (x + 5) (x + 6) (fU F).length k v) = CLn h := CLn_cg (fun b g1 g2 => ex.2.2.2.2.2.2.1 b (fun c => by omega))
  have cf := (g.cf.putU hv e).1
  refine g.loc (LC.ofL ex (fun b hb => ?_) (fun b hb => Or.inr (Or.inr (Or.inl hb))) nn (fun j hj => by rw [ex.2.2.2.2.2.2.1 x (fun c => by omega)])) (wc.cgL ex (fun b hb c => ?_) (fun c => by omega)) (by rw [el]; exact cf) (CU_cg g.2.2.2.2.1 (fun b g1 g2 => ex.2.2.2.2.2.2.1 b (fun c => by omega))) (fun v l c => by rw [el]; exact c) ?_
  · rcases hb with hb | hb
    · exact Or.inr (Or.inr (Or.inr (Or.inr (Or.inr (Or.inr (Or.inr (Or.inl hb)))))))
    · exact Or.inr (Or.inr (Or.inr (Or.inr (Or.inr (Or.inr (Or.inr (Or.inr (Or.inl hb))))))))
  · rcases hb with hb | hb
    · omega
    · exact nn b hb c
  · unfold dfn at e
    split at e
    · cases e; rfl
    · split at e
      · exact nomatch e
      · cases e; rfl
theorem g_define {v : Int32} (hd : 2 ≤ d) (hc : c < kcC C) (g : CG C h s w A ((x, (F, en, jb), js) :: G) T Ks P (some x) (nI (kPl (kcD C) v)) rn XL FS VS OS inh) : mx_SM mY_X4_define d [.ref 282, .int (nI c), .int (nI t)] h (fun r h1 => r = .inl none ∧ (dfn F (kNm (kcD C) c) v = none → CG C h1 s w A ((x, (vS F 1, en, jb), js) :: G) T Ks P (some x) (nI t) rn XL FS VS OS inh) ∧
    ∀ F1, dfn F (kNm (kcD C) c) v = some F1 → CG C h1 s w A ((x, (vS F1 0, en, jb), js) :: G) T Ks P (some x) (nI t) rn XL FS VS OS inh) := by
  obtain ⟨sx, hx⟩ := g.sb
  obtain ⟨pb, pd⟩ := g.pg
  have cf := g.cf
  have k4 := sc_k282 g.sc
  have tf := sx.tf cf.2.1.1 cf.2.1.2.1
  refine b_X4_define 282 _ _ ⟨k4, x, g.r10, sx.k0, x + 4, sx.r0_1, kcG C, g.r9, by omega, pb.1, mx_xKL2 (p_nameOf (by omega) pb pd hc) ⟨k4, sx.k4, ?_⟩⟩
  rw [g.r11]
  rcases e : dfn F (kNm (kcD C) c) v with _ | F1
  · obtain ⟨l10, ix⟩ := dfn_no cf e
    refine mx_xKI2 (k_X9_put_no (by omega) tf (by rw [sx.z5]; exact l10) ix) ⟨fun _ => ⟨sx.k0, ?_⟩, fun c => absurd rfl c⟩
    rintro _ rfl
    have g1 := g.st (v := 1)
    refine ⟨sc_k282 g1.sc, ?_⟩
    rintro _ rfl
    exact ⟨rfl, fun _ => g1.sp, (fun _ c => nomatch c)⟩
  · obtain ⟨cf1, room⟩ := cf.putU rfl e
    have g0 := g.putU rfl e
    refine mx_xKI2 (k_X9_put (by omega) tf (by rw [sx.z5]; exact room)) ⟨fun c => absurd c (by decide), fun _ => ⟨g0.sb.1.k0, ?_⟩⟩
    rintro _ rfl
    have g1 := g0.st (v := 0)
    refine ⟨sc_k282 g1.sc, ?_⟩
    rintro _ rfl
    exact ⟨rfl, (fun c => nomatch c), fun F2 e2 => by rw [← Option.some.inj e2]; exact g1.sp⟩
/-- a call's end -/
theorem g_returnFromCall (hd : 1 ≤ d) (g : CG C h s w A ((x, (F, en, jb), js) :: G) (y :: T) Ks P (some x) pl rn XL FS VS OS inh) (hn : fN F - 1 ≤ 4) (hp : 1 ≤ fN F) : mx_SM mY_X4_returnFromCall d [.ref 282] h (fun r h1 => r = .inl none ∧
    CG C h1 s w A ((x, (if y.1 = 3 then vS (vN F (fN F - 1)) 0 else if y.1 = 4 then vS (vN F (fN F - 1)) (P x).2.2 else vN F (fN F - 1), en, jb), js) :: G) T Ks P (some x) y.2.1 rn XL FS VS OS inh) := by
  have k4 := sc_k282 g.sc
  obtain ⟨f0, f1, -⟩ := g_field (d := d - 1) g
  refine b_X4_returnFromCall 282 ⟨by omega, k4, mx_xKI2 f0 ⟨k4, mx_xKI2 f1 ⟨k4, ?_⟩⟩⟩
  rintro _ rfl
  have g1 := g.sp (v := y.2.1)
  refine (g_pop (d := d - 1) g1).mono ?_
  rintro r h2 ⟨rfl, g2⟩
  obtain ⟨sx, hx⟩ := g2.sb
  obtain ⟨m, hm⟩ : ∃ m, fN F = m + 1 := ⟨fN F - 1, by omega⟩
  refine Or.inl ⟨rfl, sc_k282 g2.sc, x, g2.r10, sx.k0, ?_⟩
  rw [show hpI h2 x 8 = nI (fN F) from g2.cf.2.2.2.2.2.2.2.1, hm, nI_pred]
  rintro _ rfl
  have g3 := g2.ns (n := m) (by omega)
  obtain ⟨sx3, -⟩ := g3.sb
  rw [show m + 1 - 1 = m from rfl]
  refine ⟨fun c3 => ⟨fun c4 => ?_, fun c4 => ⟨x, g3.r10, sx3.k0, ?_⟩⟩, fun c3 => ⟨x, g3.r10, sx3.k0, ?_⟩⟩
  · rw [if_neg c3, if_neg c4]; exact ⟨rfl, g3⟩
  · rw [if_neg c3, if_pos c4]
    rw [show hpI (hsI h2 x 8 (nI m)) x 11 = (P x).2.2 from (g3.2.2.2.2.2.2.1 _ List.mem_cons_self).2.2]
    rintro _ rfl
    exact ⟨rfl, g3.st⟩
  · rw [if_pos c3]
    rintro _ rfl
    exact ⟨rfl, g3.st⟩
end MXDG
