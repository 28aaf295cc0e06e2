/-! THE CLASS'S OPEN FILES: a handle is put -/
section MXOP
variable {h h' : mxH} {RS inh : List Nat} {sl i : Nat} {new : Option Nat}
/-- the rows behind a put -/
def Rput (h h' : mxH) (RS : List Nat) (sl i : Nat) (new : Option Nat) : Prop := ∀ a ∈ RS, ∀ k, k < 10 → hpR h' a k = if a = sl ∧ k = i then new else hpR h a k
theorem hd_up_I {b k : Nat} : hpI (hd_up h new) b k = if new = some b ∧ k = 4 then hpI h b k + 1 else hpI h b k := by
  cases new with
  | none => rw [if_neg (fun e => by cases e.1)]; rfl
  | some c =>
    show hpI (hsI h c 4 (hpI h c 4 + 1)) b k = _
    rw [hpI_sI]
    by_cases e : b = c
    · subst e
      rw [if_pos rfl]
      by_cases e4 : k = 4
      · rw [if_pos e4, if_pos ⟨rfl, e4⟩, e4]
      · rw [if_neg e4, if_neg (fun q => e4 q.2)]
    · rw [if_neg e, if_neg (fun q => e (Option.some.inj q.1).symm)]
theorem oi_put_raw (hc : hpK h 135 = 0) (hks : hpK h sl = 18) (hi : i < 10) (hr : ∀ o, hpR h sl i = some o → hpK h o = 5) (hn : ∀ b, new = some b → hpK h b = 5) :
    FrO h (hd_put h 135 sl i new) ∧ (∀ a k, hpK h a = 18 → hpR (hd_put h 135 sl i new) a k = if a = sl ∧ k = i then new else hpR h a k) ∧
    (∀ b, hpK h b = 5 → hpI (hd_put h 135 sl i new) b 4 = (if hpR h sl i = some b then (if new = some b then hpI h b 4 + 1 else hpI h b 4) - 1 else (if new = some b then hpI h b 4 + 1 else hpI h b 4))) ∧
    ((∀ o, hpR h sl i = some o → 0 < hpI (hd_put h 135 sl i new) o 4) → (hpR (hd_put h 135 sl i new) 135 0 = hpR h 135 0 ∧ ∀ b, hpK h b = 5 → hpR (hd_put h 135 sl i new) b 5 = hpR h b 5)) ∧
    (∀ o, hpR h sl i = some o → ¬ 0 < hpI (hd_put h 135 sl i new) o 4 → hpR (hd_put h 135 sl i new) 135 0 = some o ∧ ∀ b, hpK h b = 5 → hpR (hd_put h 135 sl i new) b 5 = if b = o then hpR h 135 0 else hpR h b 5) := by
  obtain ⟨u1, u2, u3, u4, u5, u6, u7⟩ := hd_up_same (h := h) new
  have n1 : (135 : Nat) ≠ sl := mx_neK hc hks (by decide)
  have R1 : ∀ a k, hpR (hsR (hd_up h new) sl i new) a k = if a = sl ∧ k = i then new else hpR h a k := fun a k => by
    rw [hpR_sR, u7]
    by_cases c : a = sl
    · subst c
      rw [if_pos rfl]
      by_cases c2 : k = i
      · rw [if_pos c2, if_pos ⟨rfl, c2⟩]
      · rw [if_neg c2, if_neg (fun q => c2 q.2)]
    · rw [if_neg c, if_neg (fun q => c q.1)]
  have I1 : ∀ a k, hpI (hsR (hd_up h new) sl i new) a k = if new = some a ∧ k = 4 then hpI h a k + 1 else hpI h a k := fun a k => hd_up_I
  have F1 : FrO h (hsR (hd_up h new) sl i new) := by
    refine ⟨u1, u2, u3, u4, u5, u6, fun a k hk => ?_, fun a k h1 h2 h3 => ?_⟩
    · rw [I1, if_neg]
      rintro ⟨e1, e2⟩
      have := hn a e1
      rcases hk with q | q
      · exact q this
      · exact q e2
    · rw [R1, if_neg]
      rintro ⟨e1, -⟩
      rw [e1] at h1
      exact h1 hks
  cases eo : hpR h sl i with
  | none =>
    have e : hd_put h 135 sl i new = hsR (hd_up h new) sl i new := by
      unfold hd_put hd_put25
      rw [u7, eo]
    rw [e]
    refine ⟨F1, fun a k _ => R1 a k, fun b hb => ?_, fun _ => ⟨?_, fun b hb => ?_⟩, fun o e => by cases e⟩
    · have e0 : ¬ (none : Option Nat) = some b := fun q => by cases q
      rw [I1, if_neg e0]
      by_cases c : new = some b
      · rw [if_pos ⟨c, rfl⟩, if_pos c]
      · rw [if_neg (fun q => c q.1), if_neg c]
    · rw [R1, if_neg (fun q => n1 q.1)]
    · rw [R1, if_neg (fun q => mx_neK hb hks (by decide) q.1)]
  | some o =>
    have ko := hr o eo
    have no : o ≠ sl := mx_neK ko hks (by decide)
    have no5 : o ≠ 135 := mx_neK ko hc (by decide)
    have I2 : ∀ b, hpK h b = 5 → hpI (hsI (hsR (hd_up h new) sl i new) o 4 (hpI (hsR (hd_up h new) sl i new) o 4 - 1)) b 4 = (if some o = some b then (if new = some b then hpI h b 4 + 1 else hpI h b 4) - 1 else (if new = some b then hpI h b 4 + 1 else hpI h b 4)) := fun b hb => by
      rw [hpI_sI, I1 o 4]
      by_cases c : b = o
      · subst c
        rw [if_pos rfl, if_pos rfl, if_pos rfl]
        by_cases c2 : new = some b
        · rw [if_pos ⟨c2, rfl⟩, if_pos c2]
        · rw [if_neg (fun q => c2 q.1), if_neg c2]
      · rw [if_neg c, if_neg (fun q => c (Option.some.inj q).symm), I1]
        by_cases c2 : new = some b
        · rw [if_pos ⟨c2, rfl⟩, if_pos c2]
        · rw [if_neg (fun q => c2 q.1), if_neg c2]
    have F2 : FrO h (hsI (hsR (hd_up h new) sl i new) o 4 (hpI (hsR (hd_up h new) sl i new) o 4 - 1)) := by
      refine F1.tr ⟨rfl, rfl, rfl, rfl, rfl, rfl, fun a k hk => ?_, fun _ _ _ _ _ => rfl⟩
      rw [hpI_sI]
      by_cases c : a = o
      · subst c
        rw [if_pos rfl]
        have k5 : hpK (hsR (hd_up h new) sl i new) a = 5 := by show hpK (hd_up h new) a = 5; rw [u4]; exact ko
        rw [if_neg (hk.resolve_left (fun q => q k5))]
      · rw [if_neg c]
    by_cases cp : 0 < hpI (hsI (hsR (hd_up h new) sl i new) o 4 (hpI (hsR (hd_up h new) sl i new) o 4 - 1)) o 4
    · have e : hd_put h 135 sl i new = hsI (hsR (hd_up h new) sl i new) o 4 (hpI (hsR (hd_up h new) sl i new) o 4 - 1) := by
        unfold hd_put hd_put25
        rw [u7, eo]
        exact if_pos cp
      rw [e]
      refine ⟨F2, fun a k _ => R1 a k, I2, fun _ => ⟨?_, fun b hb => ?_⟩, fun o2 e2 c2 => ?_⟩
      · show hpR (hsR (hd_up h new) sl i new) 135 0 = _
        rw [R1, if_neg (fun q => n1 q.1)]
      · show hpR (hsR (hd_up h new) sl i new) b 5 = _
        rw [R1, if_neg (fun q => mx_neK hb hks (by decide) q.1)]
      · cases e2; exact absurd cp c2
    · have e : hd_put h 135 sl i new = hsR (hsR (hsI (hsR (hd_up h new) sl i new) o 4 (hpI (hsR (hd_up h new) sl i new) o 4 - 1)) o 5 (hpR (hsI (hsR (hd_up h new) sl i new) o 4 (hpI (hsR (hd_up h new) sl i new) o 4 - 1)) 135 0)) 135 0 (some o) := by
        unfold hd_put hd_put25
        rw [u7, eo]
        exact if_neg cp
      have r0 : hpR (hsI (hsR (hd_up h new) sl i new) o 4 (hpI (hsR (hd_up h new) sl i new) o 4 - 1)) 135 0 = hpR h 135 0 := by
        show hpR (hsR (hd_up h new) sl i new) 135 0 = _
        rw [R1, if_neg (fun q => n1 q.1)]
      rw [r0] at e
      have R3 : ∀ a k, hpR (hsR (hsR (hsI (hsR (hd_up h new) sl i new) o 4 (hpI (hsR (hd_up h new) sl i new) o 4 - 1)) o 5 (hpR h 135 0)) 135 0 (some o)) a k = if a = 135 ∧ k = 0 then some o else if a = o ∧ k = 5 then hpR h 135 0 else if a = sl ∧ k = i then new else hpR h a k := fun a k => by
        rw [hpR_sR]
        by_cases c1 : a = 135
        · subst c1
          rw [if_pos rfl]
          by_cases c2 : k = 0
          · rw [if_pos c2, if_pos ⟨rfl, c2⟩]
          · rw [if_neg c2, if_neg (fun q => c2 q.2), hpR_sRn no5.symm, if_neg (fun q => no5 q.1.symm)]
            exact R1 135 k
        · rw [if_neg c1, if_neg (fun q => c1 q.1), hpR_sR]
          by_cases c3 : a = o
          · subst c3
            rw [if_pos rfl]
            by_cases c4 : k = 5
            · rw [if_pos c4, if_pos ⟨rfl, c4⟩]
            · rw [if_neg c4, if_neg (fun q => c4 q.2)]
              exact R1 a k
          · rw [if_neg c3, if_neg (fun q => c3 q.1)]
            exact R1 a k
      rw [e]
      refine ⟨F2.tr ⟨rfl, rfl, rfl, rfl, rfl, rfl, fun _ _ _ => rfl, fun a k h1 h2 h3 => ?_⟩, fun a k ha => ?_, I2, fun q => absurd (q o rfl) cp, fun o2 e2 c2 => ?_⟩
      · have ka : hpK h a ≠ 18 := by
          have : hpK (hd_up h new) a ≠ 18 := h1
          rw [u4] at this; exact this
        have kb : hpK h a ≠ 5 ∨ k ≠ 5 := by
          have : hpK (hd_up h new) a ≠ 5 ∨ k ≠ 5 := h2
          rw [u4] at this; exact this
        rw [R3, if_neg (fun q => h3.elim (fun g => g q.1) (fun g => g q.2)), if_neg]
        · exact (R1 a k).symm
        · rintro ⟨e1, e2⟩
          rw [e1] at kb
          exact kb.elim (fun g => g ko) (fun g => g e2)
      · rw [R3, if_neg (fun q => mx_neK ha hc (by decide) q.1), if_neg (fun q => mx_neK ha ko (by decide) q.1)]
      · cases e2
        refine ⟨?_, fun b hb => ?_⟩
        · rw [R3, if_pos ⟨rfl, rfl⟩]
        · rw [R3, if_neg (fun q => mx_neK hb hc (by decide) q.1)]
          by_cases c : b = o
          · rw [if_pos ⟨c, rfl⟩, if_pos c]
          · rw [if_neg (fun q => c q.1), if_neg c, if_neg (fun q => mx_neK hb hks (by decide) q.1)]
theorem OI.put (q : OI h RS inh) (hc : hpK h 135 = 0) (hs : sl ∈ RS) (hi : i < 10) (hn : ∀ b, new = some b → mx_kd h b 5) (hf : ∀ b, new = some b → rcnt (hpR h) b RS ≠ 0 ∨ b ∈ inh) :
    OI (hd_put h 135 sl i new) RS (inh.filter fun o => decide (new ≠ some o)) ∧ FrO h (hd_put h 135 sl i new) ∧ Rput h (hd_put h 135 sl i new) RS sl i new := by
  obtain ⟨q1, q2, q3, q4, q5, fl, q6, q7, q8⟩ := q
  obtain ⟨ksl, zsl, osl⟩ := q3 sl hs
  obtain ⟨r1, r2, r3, r4, r5⟩ := oi_put_raw (new := new) hc ksl.2 hi (fun o e => (osl i hi o e).2) (fun b e => (hn b e).2)
  have kd : ∀ b k, mx_kd (hd_put h 135 sl i new) b k ↔ mx_kd h b k := fun b k => by
    unfold mx_kd
    rw [r1.1, r1.2.2.2.1]
  have RP : Rput h (hd_put h 135 sl i new) RS sl i new := fun a ha k _ => r2 a k (q3 a ha).1.2
  have cnt : ∀ b, rcnt (hpR (hd_put h 135 sl i new)) b RS + (if hpR h sl i = some b then 1 else 0) = rcnt (hpR h) b RS + (if new = some b then 1 else 0) := fun b => rcnt_up hi RS q1 hs RP
  have lim : ∀ b, rcnt (hpR h) b RS < 10000000 := fun b => by have := rcnt_le (hpR h) b RS; omega
  have pos : ∀ o, hpR h sl i = some o → 0 < rcnt (hpR h) o RS := fun o e => rcnt_pos RS hs hi e
  have cn : ∀ b, mx_kd h b 5 → hpI (hd_put h 135 sl i new) b 4 = nI (rcnt (hpR (hd_put h 135 sl i new)) b RS) := fun b hb => by
    rw [r3 b hb.2, q4 b hb]
    have c := cnt b
    by_cases e1 : hpR h sl i = some b
    · rw [if_pos e1] at c ⊢
      have p := pos b e1
      by_cases e2 : new = some b
      · rw [if_pos e2] at c ⊢
        rw [nI_1, nI_pred]
        have : rcnt (hpR (hd_put h 135 sl i new)) b RS = rcnt (hpR h) b RS := by omega
        rw [this]
      · rw [if_neg e2] at c ⊢
        obtain ⟨m, em⟩ : ∃ m, rcnt (hpR h) b RS = m + 1 := ⟨rcnt (hpR h) b RS - 1, by omega⟩
        rw [em, nI_pred]
        have : rcnt (hpR (hd_put h 135 sl i new)) b RS = m := by omega
        rw [this]
    · rw [if_neg e1] at c ⊢
      by_cases e2 : new = some b
      · rw [if_pos e2] at c ⊢
        rw [nI_1]
        have : rcnt (hpR (hd_put h 135 sl i new)) b RS = rcnt (hpR h) b RS + 1 := by omega
        rw [this]
      · rw [if_neg e2] at c ⊢
        have : rcnt (hpR (hd_put h 135 sl i new)) b RS = rcnt (hpR h) b RS := by omega
        rw [this]
  have memi : ∀ o, o ∈ inh.filter (fun o => decide (new ≠ some o)) ↔ (o ∈ inh ∧ new ≠ some o) := fun o => by
    rw [List.mem_filter, decide_eq_true_eq]
  refine ⟨⟨q1, q2, fun a ha => ?_, fun o ho => cn o ((kd o 5).mp ho), fun o ho => ?_, ?_⟩, r1, RP⟩
  · obtain ⟨a1, a2, a3⟩ := q3 a ha
    refine ⟨(kd a 18).mpr a1, by rw [r1.2.2.2.2.1]; exact a2, fun k hk o e => (kd o 5).mpr ?_⟩
    rw [RP a ha k hk] at e
    by_cases c : a = sl ∧ k = i
    · rw [if_pos c] at e; exact hn o e
    · rw [if_neg c] at e; exact a3 k hk o e
  · obtain ⟨o1, o2⟩ := (memi o).mp ho
    obtain ⟨o3, o4⟩ := q5 o o1
    refine ⟨(kd o 5).mpr o3, ?_⟩
    have c := cnt o
    rw [if_neg o2] at c
    omega
  · -- what the free list says of one that is not the old one
    have other : ∀ x, hpR h sl i ≠ some x → (x ∈ fl ↔ (mx_kd (hd_put h 135 sl i new) x 5 ∧ rcnt (hpR (hd_put h 135 sl i new)) x RS = 0 ∧ x ∉ inh.filter (fun o => decide (new ≠ some o)))) := fun x hx => by
      rw [q8 x, kd x 5, memi]
      have c := cnt x
      rw [if_neg hx] at c
      by_cases e : new = some x
      · rw [if_pos e] at c
        constructor
        · rintro ⟨a, b, d⟩
          rcases hf x e with g | g
          · exact absurd b g
          · exact absurd g d
        · rintro ⟨a, b, d⟩
          omega
      · rw [if_neg e] at c
        have : rcnt (hpR (hd_put h 135 sl i new)) x RS = rcnt (hpR h) x RS := by omega
        rw [this]
        constructor
        · rintro ⟨a, b, d⟩; exact ⟨a, b, fun g => d g.1⟩
        · rintro ⟨a, b, d⟩; exact ⟨a, b, fun g => d ⟨g, e⟩⟩
    have flk : ∀ x ∈ fl, hpK h x = 5 := fun x hx => ((q8 x).mp hx).1.2
    by_cases cp : ∀ o, hpR h sl i = some o → 0 < hpI (hd_put h 135 sl i new) o 4
    · obtain ⟨s1, s2⟩ := r4 cp
      refine ⟨fl, ?_, q7, fun x => ?_⟩
      · rw [s1]; exact FLc.congr fl _ (fun o ho => s2 o (flk o ho)) q6
      · by_cases hx : hpR h sl i = some x
        · have p := pos x hx
          have kx : mx_kd h x 5 := osl i hi x hx
          have g := cp x hx
          rw [cn x kx] at g
          have g2 : 0 < rcnt (hpR (hd_put h 135 sl i new)) x RS := (nI_ltI (a := 0) (by omega) (by have := rcnt_le (hpR (hd_put h 135 sl i new)) x RS; omega)).mp g
          constructor
          · intro m; exact absurd ((q8 x).mp m).2.1 (by omega)
          · rintro ⟨-, b, -⟩; omega
        · exact other x hx
    · obtain ⟨o, eo, no⟩ : ∃ o, hpR h sl i = some o ∧ ¬ 0 < hpI (hd_put h 135 sl i new) o 4 := by
        cases eo : hpR h sl i with
        | none => exact absurd (fun o e => by rw [eo] at e; cases e) cp
        | some o => exact ⟨o, rfl, fun g => cp (fun o2 e2 => by rw [eo] at e2; cases e2; exact g)⟩
      obtain ⟨s1, s2⟩ := r5 o eo no
      have p := pos o eo
      have ko : mx_kd h o 5 := osl i hi o eo
      have z : rcnt (hpR (hd_put h 135 sl i new)) o RS = 0 := by
        rcases Nat.eq_zero_or_pos (rcnt (hpR (hd_put h 135 sl i new)) o RS) with g | g
        · exact g
        · exact absurd (by rw [cn o ko]; exact (nI_ltI (a := 0) (by omega) (by have := rcnt_le (hpR (hd_put h 135 sl i new)) o RS; omega)).mpr g) no
      have nfl : o ∉ fl := fun m => by have := ((q8 o).mp m).2.1; omega
      refine ⟨o :: fl, ⟨s1, ?_⟩, List.nodup_cons.mpr ⟨nfl, q7⟩, fun x => ?_⟩
      · rw [s2 o ko.2, if_pos rfl]
        exact FLc.congr fl _ (fun x hx => by
          have ne : x ≠ o := fun e => nfl (by rw [← e]; exact hx)
          rw [s2 x (flk x hx), if_neg ne]) q6
      · by_cases c : x = o
        · subst c
          refine ⟨fun _ => ⟨(kd x 5).mpr ko, z, fun m => ?_⟩, fun _ => List.mem_cons_self⟩
          have := (q5 x ((memi x).mp m).1).2
          omega
        · rw [List.mem_cons]
          have := other x (fun e => c (by rw [eo] at e; exact (Option.some.inj e).symm))
          constructor
          · rintro (e | e)
            · exact absurd e c
            · exact this.mp e
          · exact fun e => Or.inr (this.mpr e)
end MXOP
