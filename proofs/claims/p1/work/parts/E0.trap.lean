/-! Commands.trap -/
section MXTP
variable {h h1 h2 : mxH} {d x g c s : Nat} {w : spW} {D : pmC} {F : spF} {nc na : Nat} {fa fd : Nat → Nat} {p q : Nat → Prop} {ln : Int32 → spL → Prop}
theorem ExI.toL (e : ExI p h h1) : ExL p q h h1 := ⟨e.1, e.2.1, e.2.2.1, e.2.2.2.1, e.2.2.2.2.1, e.2.2.2.2.2.2.1, e.2.2.2.2.2.2.2, fun b _ => by rw [e.2.2.2.2.2.1]⟩
/-- an action's cell -/
theorem CF.act {j : Nat} {a : Int64} (cf : CF D ln h x F) : CF D ln (hsL h (x + 7) j a) x (vA F (fup (fA F) j a)) := by
  obtain ⟨v, u, ac, r⟩ := cf
  have fl : ∀ b, b ≠ x + 7 → hpL (hsL h (x + 7) j a) b = hpL h b := fun b hb => by
    show (if b = x + 7 then fup (hpL h (x + 7)) j a else hpL h b) = _
    rw [if_neg hb]
  have f7 : hpL (hsL h (x + 7) j a) (x + 7) = fup (hpL h (x + 7)) j a := by
    show (if x + 7 = x + 7 then fup (hpL h (x + 7)) j a else _) = _
    rw [if_pos rfl]
  unfold CF
  rw [fl (x + 2) (by omega), fl (x + 5) (by omega), f7]
  refine ⟨v, u, fun k hk => ?_, r⟩
  show fup (hpL h (x + 7)) j a k = fup (fA F) j a k
  by_cases e : k = j
  · rw [e, fup_e, fup_e]
  · rw [fup_n e, fup_n e]; exact ac k hk
/-- the end of a command that changes no more than the text and this shell's actions -/
def TrE (D : pmC) (x : Nat) (h : mxH) (q : Int32 × spW × spF) (r : mxRes) (h1 : mxH) : Prop := r = .inl (some (.int q.1)) ∧ ExL (fun b => b = 283 ∨ b = 284) (fun b => b = x + 7) h h1 ∧ CF D (CLn h) h1 x q.2.2
theorem sigK_lt {v : Int64} {j : Nat} (e : sigK v = some j) : j < 4 := (List.findIdx?_eq_some_iff_findIdx_eq.mp e).1
theorem k_X1_trap (hd : 4 ≤ d) (a : AC h g x D nc na fa fd F) (sg : SGN h) (hc : c < nc) : mx_SM mY_X1_trap d [.ref 283, .ref g, .ref x, .int (nI c)] h (TrE D x h (opTrap ((kAr D c).map (evA F)) w F)) := by
  refine b_X1_trap 283 g x (nI c) ⟨by omega, sc_k283 a.1, (k_X1_nameArgument (idx := 0) (by omega) a hc (by omega)).mono ?_⟩
  rintro _ h1 ⟨rfl, e1⟩
  have a1 := a.ex e1
  refine Or.inl ⟨_, rfl, sc_k283 a1.1, (k_X1_nameArgument (idx := 1) (by omega) a1 hc (by omega)).mono ?_⟩
  rintro _ h2 ⟨rfl, e2⟩
  have a2 := a1.ex e2
  have ex : ExI pTX h h2 := e1.tr e2
  have sg2 : SGN h2 := by
    obtain ⟨z, q⟩ := sg
    exact ⟨by rw [ex.2.2.2.2.1]; exact z, by rw [ex.2.2.2.2.2.1]; exact q⟩
  have b2 := a2.1.pb a2.2.2.2.1
  have eCL : CLn h2 = CLn h := CLn_cg (fun b h1 h2 => ex.2.2.2.2.2.2.2 b (fun c => by rcases c with c | c <;> omega))
  have cf : CF D (CLn h) h2 x F := by rw [← eCL]; exact a2.2.2.2.2.2.1
  have len : ((kAr D c).map (evA F)).length = (kAr D c).length := List.length_map ..
  have l7 : (kAr D c).length ≤ 700 := by
    have q1 := (a.2.2.2.2.1.2.2.1.2.2 c hc).2.1
    have q2 := a.2.2.2.2.1.2.2.1.1
    omega
  refine Or.inl ⟨_, rfl, mx_xKI2 (k_X1_signalNamed sg2) ⟨b2.1, mx_xKI2 (p_argumentsOf (by omega) b2 a2.2.2.2.2.1 hc) ?_⟩⟩
  rw [lg_cmp_eq, lg_cmp_eq, lg_cmp_eq]
  generalize (kAr D c).map (evA F) = as at len ⊢
  have same : opTrap as w F = (2, w, F) → TrE D x h (opTrap as w F) (.inl (some (.int 2))) h2 := fun e => by
    rw [e]; exact ⟨rfl, ex.toL, cf⟩
  refine ⟨fun c1 => same ?_, fun c1 => ⟨fun c2 => same ?_, fun c2 => ?_⟩⟩
  · have : as.length ≠ 2 := fun e => c1 (by rw [← len, e]; rfl)
    unfold opTrap
    rw [if_pos (Or.inl this)]
  · unfold opTrap
    rw [if_pos (Or.inr c2)]
  · have l2 : as.length = 2 := by rw [len]; exact (nI_eq (b := 2) (by omega) (by omega)).mp c1
    have ng : ¬ (as.length ≠ 2 ∨ nmL (as.getD 0 []) = 0) := fun q => q.elim (fun q => q l2) c2
    rcases es : sigK (nmL (as.getD 1 [])) with _ | j
    · refine ⟨fun _ => same ?_, fun c3 => absurd (by decide) c3⟩
      unfold opTrap
      rw [if_neg ng, es]
    · have j4 := sigK_lt es
      have ot : opTrap as w F = (0, w, vA F (fup (fA F) j (if nmL (as.getD 0 []) = 10620950253 then 0 else if nmL (as.getD 0 []) = 637945088 then -2 else nmL (as.getD 0 [])))) := by
        unfold opTrap
        rw [if_neg ng, es]
      rw [ot]
      have fin : ∀ act : Int64, act = (if nmL (as.getD 0 []) = 10620950253 then 0 else if nmL (as.getD 0 []) = 637945088 then -2 else nmL (as.getD 0 [])) → TrE D x h (0, w, vA F (fup (fA F) j (if nmL (as.getD 0 []) = 10620950253 then 0 else if nmL (as.getD 0 []) = 637945088 then -2 else nmL (as.getD 0 [])))) (.inl (some (.int 0))) (hsL h2 (x + 7) j act) := fun act ea => by
        rw [← ea]
        exact ⟨rfl, ex.toL.L rfl, cf.act⟩
      have sx := a2.2.1
      have vp : vp_in (nI j) (hpZ h2 (x + 7)) := by rw [sx.z7]; exact vp_in_nI j4 (by omega)
      have cl : (ixI (some j)).toNatClampNeg = j := nI_clamp (by omega)
      refine ⟨fun c3 => absurd c3 (nI_pos (by omega)), fun _ => ⟨fun _ => ⟨fun c5 => ⟨sx.k0, x + 7, sx.r0_2, fun c6 => ⟨sx.k7, vp, ?_⟩, fun c6 => ⟨sx.k7, vp, ?_⟩⟩, fun c5 => ⟨sx.k0, x + 7, sx.r0_2, sx.k7, vp, ?_⟩⟩, fun c4 => absurd (show nI j < nI 4 from nI_lt j4 (by omega)) c4⟩⟩
      all_goals
        rw [cl]
        rintro _ rfl
      · exact fin _ (by rw [if_neg c5, if_neg c6])
      · exact fin _ (by rw [if_neg c5, if_pos c6])
      · exact fin _ (by rw [if_pos c5])
end MXTP
