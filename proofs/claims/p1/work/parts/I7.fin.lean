/-! The end of a run: from the machine's end to the main shell alone -/
section MXI7
variable {C : cC} {h h1 h2 h6 : mxH} {s s' d t k sl o c i p p' n fl pu pq : Nat} {w w' : spW} {A A' : Nat → Option Nat} {P P' : cP} {x y x2 : Nat} {fh hs : spH} {F F1 : spF} {f f' gg : spF} {en en' : Bool} {jb jb' js js' : List spJ} {jl jl' jm : List Nat} {fr fr' : List pmF} {K : List (pmU × pmL)} {Z L : List cZ} {m m1 : pmM} {Q : mxRes → mxH → Prop} {lm l : pmL}
theorem CKr.lnk : ∀ {x : Nat} {Z : List cZ} {K : List (pmU × pmL)}, CKr P x Z K → lnk P x (lastH fh Z)
  | x, [], K, h => h.2.1
  | x, [z], K, ⟨u, K', _, _, h3, _, _, h6⟩ => ⟨h3, h6.2.1⟩
  | x, z :: z2 :: Z, K, ⟨u, K', _, _, h3, _, _, h6⟩ => ⟨h3, h6.lnk⟩
theorem CKr.lv : ∀ {x : Nat} {Z : List cZ} {K : List (pmU × pmL)}, CKr P x Z K → Z.map (fun z => z.2.1) = K.map Prod.snd
  | x, [], K, h => by rw [h.1]; rfl
  | x, z :: Z, K, ⟨u, K', h1, h2, _, _, _, h6⟩ => by rw [h1, List.map_cons, List.map_cons, h6.lv, h2]
theorem lastH_last : ∀ (L : List cZ) (z : cZ), lst146 (z :: L) → ∃ jm, (lastH fh (z :: L)).getLast? = some (146, (vH (((z :: L).map fun y => y.2.1).getLast?.getD z.2.1).1 fh, (((z :: L).map fun y => y.2.1).getLast?.getD z.2.1).2), jm)
  | [], z, h => ⟨z.2.2, by
    have h : z.1 = 146 := h
    show some (z.1, (vH z.2.1.1 fh, z.2.1.2), z.2.2) = _
    rw [h]; rfl⟩
  | y :: L, z, h => by
    obtain ⟨jm, e⟩ := lastH_last L y h
    refine ⟨jm, ?_⟩
    have e1 : lastH fh (z :: y :: L) = z :: lastH fh (y :: L) := rfl
    have ne : lastH fh (y :: L) ≠ [] := fun c => by rw [c] at e; exact nomatch e
    obtain ⟨a, r, ear⟩ := List.exists_cons_of_ne_nil ne
    rw [e1, ear, List.getLast?_cons_cons, ← ear, e]
    have e2 : ((z :: y :: L).map fun y => y.2.1).getLast? = ((y :: L).map fun y => y.2.1).getLast? := by
      rw [List.map_cons, List.map_cons, List.getLast?_cons_cons]
    rw [e2]
    have ne2 : ∃ q, ((y :: L).map fun y => y.2.1).getLast? = some q := by
      rw [List.map_cons, List.getLast?_cons]
      exact ⟨_, rfl⟩
    obtain ⟨q, eq⟩ := ne2
    rw [eq]; rfl
theorem lastH_len : ∀ L : List cZ, (lastH fh L).length = L.length
  | [] => rfl
  | [z] => rfl
  | z :: z2 :: L => by
    show (lastH fh (z2 :: L)).length + 1 = _
    rw [lastH_len]; rfl
/-- what a run leaves -/
def XFin (C : cC) (s : Nat) (w : spW) (lm : pmL) (r : mxRes) (h1 : mxH) : Prop := ∃ A jm T P pl XL VS OS, CFin C s w A lm jm T P pl 0 XL VS OS r h1
theorem x_stop (hd : 5 ≤ d) (c : CStp C h s m) (hK : m.2.2.2.length < 2900) (el : (pmLs m).getLast? = some (f', en', js', fr')) : mx_SX mY_X4_execute d 96 [(0, .ref 282)] [] h (XFin C s m.1 (vH f' (kcF C), en', js', fr')) := by
  obtain ⟨w, p, l, K⟩ := m
  obtain ⟨A, x, jl, Z, P, XL, FS, VS, OS, k, g⟩ := c
  have k : CKr P x Z K := k
  have hK : K.length < 2900 := hK
  have lst := k.lst l jl
  obtain ⟨jm, e⟩ := lastH_last (fh := kcF C) Z (x, l, jl) lst
  have el : (l :: K.map Prod.snd).getLast? = some (f', en', js', fr') := el
  have em : ((x, l, jl) :: Z).map (fun y => y.2.1) = l :: K.map Prod.snd := by rw [List.map_cons, k.lv]
  rw [em, el] at e
  have e : (lastH (kcF C) ((x, l, jl) :: Z)).getLast? = some (146, (vH f' (kcF C), en', js', fr'), jm) := e
  refine b_X4_execute_96 282 ⟨by omega, sc_k282 g.sc, ?_⟩
  have hz := k.len
  have fin : mx_SM mY_X4_letGo (d - 1) [.ref 282] h (CFin C s w A (vH f' (kcF C), en', js', fr') jm (cTf (w, p, l, K)) P (nI p) 0 XL VS OS) := by
    rcases Z with _ | ⟨z, Z⟩
    · exact g_letGo (d := d - 1) (L := []) (l := (vH l.1 (kcF C), l.2)) (by omega) (by decide) k.2.1 e g
    · have lk := k.lnk (fh := kcF C)
      exact g_letGo (d := d - 1) (L := lastH (kcF C) (z :: Z)) (l := l) (by omega) (by rw [lastH_len]; omega) lk e g
  exact fin.mono fun r h1 q => Or.inl ⟨q.1, A, jm, _, P, _, XL, VS, OS, rfl, q.2⟩
theorem x_left (hd : 5 ≤ d) (c : CEnd C h s m) : mx_SX mY_X4_execute d 96 [(0, .ref 282)] [] h (XFin C s m.1 (m.2.2.1.1, true, m.2.2.1.2.2.1, [])) := by
  obtain ⟨w, p, ⟨f, en, js, fr⟩, K⟩ := m
  obtain ⟨A, jl, P, XL, FS, VS, OS, kp, nw, g⟩ := c
  refine b_X4_execute_96 282 ⟨by omega, sc_k282 g.sc, ?_⟩
  have g : CG C h s w A (cG [(146, (f, true, js, []), jl)]) [] [] P (some 146) (nI p) 0 XL FS VS OS [] := by
    show CG C h s w A ((146, (f, true, js), jl) :: (cJs js jl ++ [])) [] [] P (some 146) (nI p) 0 XL FS VS OS []
    rw [cJs_none js jl nw]
    exact g
  exact (g_letGo (d := d - 1) (L := []) (by omega) (by decide) rfl rfl g).mono fun r h1 q => Or.inl ⟨q.1, A, jl, _, P, _, XL, VS, OS, rfl, q.2⟩
end MXI7
