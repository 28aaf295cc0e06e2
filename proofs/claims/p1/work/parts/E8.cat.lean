/-! Commands.cat -/
section MXCT
variable {h h1 h2 hA hB : mxH} {d x g c s n : Nat} {w w' : spW} {D : pmC} {F : spF} {nc na : Nat} {fa fd : Nat → Nat} {A : Nat → Option Nat} {oh : Option Nat} {l l0 : spL} {v : Int32} {as : List spL} {bg : Bool}
theorem wr_no : (wrLine w oh l).1 = false → (wrLine w oh l).2 = w := by
  cases oh with
  | none => intro _; rfl
  | some o =>
    unfold wrLine
    simp only []
    repeat' split
    all_goals first
      | (intro _; rfl)
      | (intro h; exact nomatch h)
theorem WC.f40 (c : WC h A s w) (i : Nat) : (lnsOf w i).length ≤ 40 := by
  by_cases g : i < (wF w).length
  · have := (c.2.1.1.2.2 i g).2.2.1
    show ((wF w).getD i (0, [])).2.length ≤ 40
    rw [gd_at g]; exact this
  · show ((wF w).getD i (0, [])).2.length ≤ 40
    rw [gd_out (by omega)]; decide
theorem WC.pot (c : WC h A s w) : pot w oh ≤ 40 := by
  cases oh with
  | none => exact Nat.zero_le _
  | some o =>
    show (if ((wO w).getD o (0, 0, 0)).1 = 1 then (wI w).length else if ((wO w).getD o (0, 0, 0)).1 = 2 then 40 - ((wO w).getD o (0, 0, 0)).2.2 else 0) ≤ 40
    split
    · exact c.2.1.2.1.2.1
    · split <;> omega
theorem ct_20 (hd : 3 ≤ d) (hx : x = 146 ∨ 365 ≤ x) : ∀ q i (w : spW) (h1 : mxH) (v : Int32), i + q = 12040 → SB h1 x → RdV h1 v (rdLine w (fH F 0) (fG F)).1 → WC h1 A s (rdLine w (fH F 0) (fG F)).2 → CF D (CLn h1) h1 x F → CU h1 n → CH h1 A x (fH F) → LC A x h h1 → (∀ v l, CLn h v l → CLn h1 v l) → totU w + pot w (fH F 0) ≤ 12000 → (∀ i, (lnsOf w i).length ≤ 40) → ∀ r, catN (q + 1) w F = some r →
    mx_SX mY_X1_cat d 20 [(0, .ref 283), (2, .ref x), (4, .int v), (5, .int (nI i))] [] h1 (OpE D A x s n h (r.1, r.2, F)) := by
  intro q
  induction q with
  | zero =>
    intro i w h1 v hi sx rd wc cf cu ch lc ln _ _ r hr
    unfold catN at hr
    simp only [] at hr
    refine b_X1_cat_20 283 x _ _ ⟨fun _ => ?_, fun c => absurd ((nI_leI (a := 12040) (by omega) (by omega)).mpr (by omega)) c⟩
    rcases rd with ⟨q0, cl⟩ | ⟨q1, rfl⟩ | ⟨q2, rfl⟩ | ⟨q3, rfl⟩
    · rw [if_neg (by omega), if_neg (by omega), if_neg (by omega)] at hr
      have v0 := CLn_ge cl
      cases e : (wrLine (rdLine w (fH F 0) (fG F)).2 (fH F 1) (rdLine w (fH F 0) (fG F)).1.2).1 with
      | true => rw [if_pos e] at hr; exact nomatch hr
      | false =>
        rw [if_neg (by rw [e]; decide), wr_no e] at hr
        cases hr
        exact b_X1_cat_58 v ⟨fun _ => ⟨fun _ => ⟨rfl, lc, wc, cf, cu, ln⟩, fun c => absurd v0 (by rw [c]; decide)⟩, fun c => absurd v0 (by rw [c]; decide)⟩
    · rw [if_neg (by omega), if_neg (by omega), if_pos q1] at hr
      cases hr
      exact b_X1_cat_58 _ ⟨fun _ => ⟨fun c => absurd rfl c, fun _ => ⟨rfl, lc, wc, cf, cu, ln⟩⟩, fun c => absurd c (by decide)⟩
    · rw [if_neg (by omega), if_pos q2] at hr
      cases hr
      exact b_X1_cat_58 _ ⟨fun _ => ⟨fun _ => ⟨rfl, lc, wc, cf, cu, ln⟩, fun c => absurd c (by decide)⟩, fun c => absurd c (by decide)⟩
    · rw [if_pos q3] at hr
      cases hr
      exact b_X1_cat_58 _ ⟨fun c => absurd rfl c, fun _ => ⟨rfl, lc, wc, cf, cu, ln⟩⟩
  | succ q ih =>
    intro i w h1 v hi sx rd wc cf cu ch lc ln ht hF r hr
    have i31 : i < 2 ^ 31 := by omega
    unfold catN at hr
    simp only [] at hr
    have n12 : ¬ (12040 : Int32) ≤ nI i := fun c => absurd ((nI_leI (a := 12040) (by omega) i31).mp c) (by omega)
    rcases rd with ⟨q0, cl⟩ | ⟨q1, rfl⟩ | ⟨q2, rfl⟩ | ⟨q3, rfl⟩
    · rw [if_neg (by omega), if_neg (by omega), if_neg (by omega)] at hr
      have v0 := CLn_ge cl
      obtain ⟨p1, p2⟩ := rd_pot (bg := fG F) hF q0
      obtain ⟨p3, p4⟩ := wr_pot (w := (rdLine w (fH F 0) (fG F)).2) (oh := fH F 0) (oh' := fH F 1) (l := (rdLine w (fH F 0) (fG F)).1.2)
      refine b_X1_cat_20 283 x _ _ ⟨fun c => absurd c n12, fun _ => ⟨fun c => absurd c (i0n v0), fun _ => ⟨by omega, sc_k283 wc.1, (k_X1_writeLine (by omega) wc sx (ch 1 (by decide)) cl cu.nil (by omega)).mono ?_⟩⟩⟩
      rintro _ h2 ⟨rfl, w2, fr⟩
      obtain ⟨m1, m2, m3⟩ := fr.more wc sx hx cf
      have s2 := sx.fp fr.1.fp
      have lc2 := lc.tr (LC.ofR fr wc sx hx)
      have ln2 : ∀ v l, CLn h v l → CLn h2 v l := fun v l c => by rw [m1]; exact ln v l c
      have cu2 := m3 _ cu
      have ch2 : CH h2 A x (fH F) := fun k hk => by rw [fr.1.2.2.2.2.2.2.1]; exact ch k hk
      refine Or.inl ⟨_, rfl, ?_⟩
      cases e : (wrLine (rdLine w (fH F 0) (fG F)).2 (fH F 1) (rdLine w (fH F 0) (fG F)).1.2).1 with
      | true =>
        rw [if_pos e] at hr
        refine ⟨fun _ => ⟨sc_k283 w2.1, (k_X1_readLine (by omega) w2 s2 (ch2 0 (by decide)) m2.2.2.2.2.1).mono ?_⟩, fun c => absurd c (by decide)⟩
        rintro _ h3 ⟨v3, rfl, rd3, w3, fr3⟩
        obtain ⟨k1, k2, k3⟩ := fr3.more w2 s2 hx m2
        refine Or.inl ⟨v3, rfl, ?_⟩
        rw [nI_1]
        refine ih (i + 1) _ h3 v3 (by omega) (s2.fp fr3.1.fp) ?_ w3 k2 (k3 _ cu2) (fun k hk => by rw [fr3.1.2.2.2.2.2.2.1]; exact ch2 k hk) (lc2.tr (LC.ofR fr3 w2 s2 hx)) (fun v l c => by rw [k1]; exact ln2 v l c) (by omega) w2.f40 r hr
        unfold RdV at rd3 ⊢
        rw [k1]; exact rd3
      | false =>
        rw [if_neg (by rw [e]; decide)] at hr
        cases hr
        exact ⟨fun c => absurd rfl c, fun _ => ⟨rfl, lc2, w2, m2, cu2, ln2⟩⟩
    · rw [if_neg (by omega), if_neg (by omega), if_pos q1] at hr
      cases hr
      exact b_X1_cat_20 283 x _ _ ⟨fun c => absurd c n12, fun _ => ⟨fun _ => b_X1_cat_58 _ ⟨fun _ => ⟨fun c => absurd rfl c, fun _ => ⟨rfl, lc, wc, cf, cu, ln⟩⟩, fun c => absurd c (by decide)⟩, fun c => absurd (by decide) c⟩⟩
    · rw [if_neg (by omega), if_pos q2] at hr
      cases hr
      exact b_X1_cat_20 283 x _ _ ⟨fun c => absurd c n12, fun _ => ⟨fun _ => b_X1_cat_58 _ ⟨fun _ => ⟨fun _ => ⟨rfl, lc, wc, cf, cu, ln⟩, fun c => absurd c (by decide)⟩, fun c => absurd c (by decide)⟩, fun c => absurd (by decide) c⟩⟩
    · rw [if_pos q3] at hr
      cases hr
      exact b_X1_cat_20 283 x _ _ ⟨fun c => absurd c n12, fun _ => ⟨fun _ => b_X1_cat_58 _ ⟨fun c => absurd rfl c, fun _ => ⟨rfl, lc, wc, cf, cu, ln⟩⟩, fun c => absurd (by decide) c⟩⟩
theorem o_cat (hd : 4 ≤ d) (k : LK h A g x D nc na fa fd s n w F) (hc : c < nc) (room : totU w + 40 ≤ 12000) {q : Int32 × spW × spF} (hq : (kAr D c).length = 0 → ∃ r, catN 12041 w F = some r ∧ q = (r.1, r.2, F)) (hq2 : (kAr D c).length ≠ 0 → q = (2, w, F)) : mx_SM mY_X1_cat d [.ref 283, .ref g, .ref x, .int (nI c)] h (OpE D A x s n h q) := by
  obtain ⟨a, hx, cw, cu, ch⟩ := k
  have l7 : (kAr D c).length ≤ 700 := by
    have q1 := (a.2.2.2.2.1.2.2.1.2.2 c hc).2.1
    have q2 := a.2.2.2.2.1.2.2.1.1
    omega
  have cf := a.2.2.2.2.2.1
  refine b_X1_cat 283 g x (nI c) ⟨by omega, (a.1.pb a.2.2.2.1).1, mx_xKI2 (p_argumentsOf (by omega) (a.1.pb a.2.2.2.1) a.2.2.2.2.1 hc) ⟨fun c1 => ?_, fun c1 => ?_⟩⟩
  · have l0 : (kAr D c).length = 0 := (nI_eq (b := 0) (by omega) (by omega)).mp c1
    obtain ⟨r, hr, rfl⟩ := hq l0
    refine ⟨sc_k283 a.1, (k_X1_readLine (by omega) cw a.2.1 (ch 0 (by decide)) cf.2.2.2.2.1).mono ?_⟩
    rintro _ h1 ⟨v, rfl, rd, w1, fr⟩
    obtain ⟨m1, m2, m3⟩ := fr.more cw a.2.1 hx cf
    refine Or.inl ⟨v, rfl, ?_⟩
    have pt := cw.pot (oh := fH F 0)
    refine ct_20 (by omega) hx 12040 0 w h1 v (Nat.zero_add _) (a.2.1.fp fr.1.fp) ?_ w1 m2 (m3 _ cu) (fun k hk => by rw [fr.1.2.2.2.2.2.2.1]; exact ch k hk) (LC.ofR fr cw a.2.1 hx) (fun v l c => by rw [m1]; exact c) (by omega) cw.f40 r hr
    unfold RdV at rd ⊢
    rw [m1]; exact rd
  · have l0 : (kAr D c).length ≠ 0 := fun e => c1 (by rw [e]; rfl)
    rw [hq2 l0]
    exact ⟨rfl, LC.rf, cw, cf, cu, fun v l c => c⟩
end MXCT
