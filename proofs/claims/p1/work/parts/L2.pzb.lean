/-! THE PARSER, PURE: sizes and fuel of bodies, commands, pipelines, chains, scripts -/
section QZ2
variable {t : Nat → Int32} {z : Nat} {k k1 k2 : qzT} {n p c d j e s cm : Nat} {rS rC : Nat → qzT → Nat → Nat → Nat → qzR qzX}
def SzS (t : Nat → Int32) (z : Nat) (k : qzT) (r : qzX) : Prop := Tk t z r.1 ∧ k.1 ≤ r.1.1 ∧ r.2.1.length + 2 * k.1 ≤ 2 * r.1.1 + 1 ∧ 2 * r.2.2.1.length + 7 * k.1 ≤ 7 * r.1.1 + 2 ∧ 2 * r.2.2.2.1.length + k.1 ≤ r.1.1 ∧ nAr r.2.2.2.1 + k.1 ≤ r.1.1 ∧ nRd r.2.2.2.1 + k.1 ≤ r.1.1 ∧ r.2.2.2.2 + k.1 ≤ r.1.1
def SzC (t : Nat → Int32) (z : Nat) (k : qzT) (r : qzX) : Prop := Tk t z r.1 ∧ k.1 + 1 ≤ r.1.1 ∧ r.2.1.length + 2 * k.1 ≤ 2 * r.1.1 ∧ 2 * r.2.2.1.length + 7 * k.1 ≤ 7 * r.1.1 + 1 ∧ 2 * r.2.2.2.1.length + k.1 ≤ r.1.1 + 1 ∧ nAr r.2.2.2.1 + k.1 ≤ r.1.1 ∧ nRd r.2.2.2.1 + k.1 ≤ r.1.1
def SzY (t : Nat → Int32) (z : Nat) (k : qzT) (r : qzY) : Prop := Tk t z r.1 ∧ r.2.2.1.length + 2 + 2 * k.1 ≤ 2 * r.1.1 ∧ 2 * r.2.2.2.1.length + 5 + 7 * k.1 ≤ 7 * r.1.1 ∧ 2 * r.2.2.2.2.1.length + 1 + k.1 ≤ r.1.1 ∧ nAr r.2.2.2.2.1 + r.2.2.2.2.2.2.2.length + 1 + k.1 ≤ r.1.1 ∧ nRd r.2.2.2.2.1 + k.1 ≤ r.1.1
def SzZ (t : Nat → Int32) (z : Nat) (k : qzT) (r : qzZ) : Prop := Tk t z r.1 ∧ r.2.2.2.1.length + 2 + 2 * k.1 ≤ 2 * r.1.1 ∧ 2 * r.2.2.2.2.1.length + 1 + 7 * k.1 ≤ 7 * r.1.1 ∧ 2 * r.2.2.2.2.2.length + k.1 ≤ r.1.1 + 1 ∧ nAr r.2.2.2.2.2 + k.1 ≤ r.1.1 ∧ nRd r.2.2.2.2.2 + k.1 ≤ r.1.1
/-- what is known of the level below -/
def LvS (t : Nat → Int32) (z : Nat) (rS rC : Nat → qzT → Nat → Nat → Nat → qzR qzX) (d : Nat) : Prop := (∀ k n p c r, Tk t z k → rS (d + 1) k n p c = some (.inr r) → SzS t z k r) ∧ ∀ k n p c r, Tk t z k → rC (d + 1) k n p c = some (.inr r) → SzC t z k r
def LvN (t : Nat → Int32) (z : Nat) (rS rC : Nat → qzT → Nat → Nat → Nat → qzR qzX) (d : Nat) : Prop := d < 5 → (∀ k n p c, Tk t z k → rS (d + 1) k n p c ≠ none) ∧ ∀ k n p c, Tk t z k → rC (d + 1) k n p c ≠ none
theorem pPar_sz {r : qzY} (l : LvS t z rS rC d) (T : Tk t z k1) (b : k.1 + 1 ≤ k1.1) (h : pPar t z rS d k1 n p c = some (.inr r)) : SzY t z k r := by
  unfold pPar at h
  obtain ⟨r1, e1, h⟩ := qzB_inr h
  obtain ⟨k2, e2, h⟩ := qzB_inr h
  cases h
  obtain ⟨a1, a2, a3, a4, a5, a6, a7, a8⟩ := l.1 _ _ _ _ _ T e1
  obtain ⟨-, b1, b2⟩ := pEx_ok a1 (by decide) e2
  refine ⟨b1, ?_⟩
  simp only [List.length_cons, List.length_append, List.length_nil]
  omega
theorem pCur_sz {r : qzY} (l : LvS t z rS rC d) (T : Tk t z k1) (b : k.1 + 1 ≤ k1.1) (h : pCur t z rS d k1 n p c = some (.inr r)) : SzY t z k r := by
  unfold pCur at h
  obtain ⟨r1, e1, h⟩ := qzB_inr h
  obtain ⟨k2, e2, h⟩ := qzB_inr h
  cases h
  obtain ⟨a1, a2, a3, a4, a5, a6, a7, a8⟩ := l.1 _ _ _ _ _ T e1
  obtain ⟨-, b1, b2⟩ := pEx_ok a1 (by decide) e2
  refine ⟨b1, ?_⟩
  simp only [List.length_cons, List.length_append, List.length_nil]
  omega
theorem pEls_sz {r : qzX × Int32} (l : LvS t z rS rC d) (T : Tk t z k) (h : pEls t z rS d k n p c = some (.inr r)) : SzS t z k r.1 := by
  unfold pEls at h
  split at h
  · rename_i q
    obtain ⟨k4, e1, h⟩ := qzB_inr h
    obtain ⟨r2, e2, h⟩ := qzB_inr h
    cases h
    have a := T.adv (by rw [q.1]; decide) e1
    obtain ⟨a1, a2, a3, a4, a5, a6, a7, a8⟩ := l.1 _ _ _ _ _ a.1 e2
    refine ⟨a1, ?_⟩
    simp only []
    omega
  · cases h
    refine ⟨T, ?_⟩
    simp only [List.length_cons, List.length_nil, nAr, nRd]
    omega
theorem pIf_sz {r : qzY} (l : LvS t z rS rC d) (T : Tk t z k1) (b : k.1 + 1 ≤ k1.1) (h : pIf t z rS rC d k1 n p c = some (.inr r)) : SzY t z k r := by
  unfold pIf at h
  obtain ⟨r1, e1, h⟩ := qzB_inr h
  obtain ⟨k2, e2, h⟩ := qzB_inr h
  obtain ⟨k3, e3, h⟩ := qzB_inr h
  obtain ⟨r2, e4, h⟩ := qzB_inr h
  obtain ⟨r3, e5, h⟩ := qzB_inr h
  obtain ⟨k5, e6, h⟩ := qzB_inr h
  cases h
  obtain ⟨a1, a2, a3, a4, a5, a6, a7⟩ := l.2 _ _ _ _ _ T e1
  obtain ⟨-, b1, b2⟩ := pEx_ok a1 (by decide) e2
  obtain ⟨-, c1, c2⟩ := pEw_ok b1 e3
  obtain ⟨d1, d2, d3, d4, d5, d6, d7, d8⟩ := l.1 _ _ _ _ _ c1 e4
  obtain ⟨f1, f2, f3, f4, f5, f6, f7, f8⟩ := pEls_sz l d1 e5
  obtain ⟨-, g1, g2⟩ := pEw_ok f1 e6
  refine ⟨g1, ?_⟩
  simp only [List.length_cons, List.length_append, List.length_nil, nAr_app, nRd_app]
  omega
theorem pWhl_sz {r : qzY} (l : LvS t z rS rC d) (T : Tk t z k1) (b : k.1 + 1 ≤ k1.1) (h : pWhl t z rS rC d k1 n p c = some (.inr r)) : SzY t z k r := by
  unfold pWhl at h
  obtain ⟨r1, e1, h⟩ := qzB_inr h
  obtain ⟨k2, e2, h⟩ := qzB_inr h
  obtain ⟨k3, e3, h⟩ := qzB_inr h
  obtain ⟨r2, e4, h⟩ := qzB_inr h
  obtain ⟨k5, e6, h⟩ := qzB_inr h
  cases h
  obtain ⟨a1, a2, a3, a4, a5, a6, a7⟩ := l.2 _ _ _ _ _ T e1
  obtain ⟨-, b1, b2⟩ := pEx_ok a1 (by decide) e2
  obtain ⟨-, c1, c2⟩ := pEw_ok b1 e3
  obtain ⟨d1, d2, d3, d4, d5, d6, d7, d8⟩ := l.1 _ _ _ _ _ c1 e4
  obtain ⟨-, g1, g2⟩ := pEw_ok d1 e6
  refine ⟨g1, ?_⟩
  simp only [List.length_cons, List.length_append, List.length_nil, nAr_app, nRd_app]
  omega
theorem pDef_sz {r : qzY} (l : LvS t z rS rC d) (T : Tk t z k1) (b : k.1 + 1 ≤ k1.1) (h : pDef t z rS d k1 n p c cm = some (.inr r)) : SzY t z k r := by
  unfold pDef at h
  split at h
  · rename_i q
    obtain ⟨k2, e1, h⟩ := qzB_inr h
    obtain ⟨k3, e2, h⟩ := qzB_inr h
    obtain ⟨r1, e3, h⟩ := qzB_inr h
    obtain ⟨k4, e4, h⟩ := qzB_inr h
    cases h
    have a := T.adv (by rw [q.1]; decide) e1
    obtain ⟨-, b1, b2⟩ := pEx_ok a.1 (by decide) e2
    obtain ⟨d1, d2, d3, d4, d5, d6, d7, d8⟩ := l.1 _ _ _ _ _ b1 e3
    obtain ⟨-, g1, g2⟩ := pEx_ok d1 (by decide) e4
    refine ⟨g1, ?_⟩
    simp only [List.length_cons, List.length_append, List.length_nil]
    omega
  · cases h
theorem pNam_sz {r : qzY} (T : Tk t z k) (w : k.2.1 = 1) (h : pNam t z k n cm = some (.inr r)) : SzY t z k r := by
  unfold pNam at h
  obtain ⟨k1, e1, h⟩ := qzB_inr h
  have a := T.adv (by rw [w]; decide) e1
  split at h
  · rename_i q
    obtain ⟨k2, e2, h⟩ := qzB_inr h
    obtain ⟨r1, e3, h⟩ := qzB_inr h
    cases h
    have b := a.1.adv (by rw [q]; decide) e2
    have c := pArg_sz b.1 e3
    refine ⟨c.1, ?_⟩
    simp only [List.length_cons, List.length_nil, nAr, nRd]
    omega
  · obtain ⟨r1, e3, h⟩ := qzB_inr h
    cases h
    have c := pAs_sz _ _ _ _ a.1 e3
    refine ⟨c.1, ?_⟩
    simp only [List.length_cons, List.length_nil, nAr, nRd]
    omega
theorem pBdy_sz {r : qzY} (l : LvS t z rS rC d) (T : Tk t z k) (h : pBdy t z rS rC d k n p c cm = some (.inr r)) : SzY t z k r := by
  unfold pBdy at h
  split at h
  · rename_i q
    split at h
    · cases h
    · obtain ⟨k1, e1, h⟩ := qzB_inr h
      have a := T.adv (by rcases q with q | q | q <;> first | (rw [q]; decide) | (rw [q.1]; decide)) e1
      split at h
      · exact pPar_sz l a.1 a.2 h
      · split at h
        · exact pCur_sz l a.1 a.2 h
        · split at h
          · exact pIf_sz l a.1 a.2 h
          · split at h
            · exact pWhl_sz l a.1 a.2 h
            · exact pDef_sz l a.1 a.2 h
  · split at h
    · rename_i q
      exact pNam_sz T q.1 h
    · cases h
theorem pCmd_sz {r : qzZ} (l : LvS t z rS rC d) (T : Tk t z k) (h : pCmd t z rS rC d k n p c = some (.inr r)) : SzZ t z k r := by
  unfold pCmd at h
  obtain ⟨r1, e1, h⟩ := qzB_inr h
  obtain ⟨q, e2, h⟩ := qzB_inr h
  cases h
  obtain ⟨a1, a2, a3, a4, a5, a6⟩ := pBdy_sz l T e1
  obtain ⟨b1, b2, b3⟩ := pRs_sz _ _ _ _ a1 e2
  refine ⟨b1, ?_⟩
  simp only [List.length_cons, List.length_append, List.length_nil, nAr, nRd]
  omega
theorem pCms_sz (l : LvS t z rS rC d) : ∀ j fi k n p c (r : qzX), Tk t z k → pCms t z rS rC d j fi k n p c = some (.inr r) → Tk t z r.1 ∧ k.1 + 1 ≤ r.1.1 ∧ r.2.1.length + 1 + 2 * k.1 ≤ 2 * r.1.1 ∧ 2 * r.2.2.1.length + 7 * k.1 ≤ 7 * r.1.1 + (if fi = true then 1 else 5) ∧ 2 * r.2.2.2.1.length + k.1 ≤ r.1.1 + 1 ∧ nAr r.2.2.2.1 + k.1 ≤ r.1.1 ∧ nRd r.2.2.2.1 + k.1 ≤ r.1.1
  | 0, fi, k, n, p, c, r, T, h => by have h : (none : qzR qzX) = some (.inr r) := h; cases h
  | j + 1, fi, k, n, p, c, r, T, h => by
    unfold pCms at h
    obtain ⟨r1, e1, h⟩ := qzB_inr h
    obtain ⟨a1, a2, a3, a4, a5, a6⟩ := pCmd_sz l T e1
    split at h
    · rename_i w
      obtain ⟨k1, e2, h⟩ := qzB_inr h
      obtain ⟨q, e3, h⟩ := qzB_inr h
      cases h
      have b := a1.adv (by rw [w]; decide) e2
      obtain ⟨c1, c2, c3, c4, c5, c6, c7⟩ := pCms_sz l j false k1 _ _ _ q b.1 e3
      rw [if_neg (by decide)] at c4
      refine ⟨c1, ?_⟩
      simp only [List.length_cons, List.length_append, List.length_nil, nAr_app, nRd_app]
      have : 1 ≤ (if fi = true then 1 else 5) := by split <;> omega
      omega
    · cases h
      refine ⟨a1, ?_⟩
      cases fi
      · rw [if_neg (by decide), if_neg (by decide)]
        simp only [List.length_cons, List.length_append, List.length_nil]
        omega
      · rw [if_pos rfl, if_pos rfl]
        simp only [List.length_cons, List.length_append, List.length_nil]
        omega
theorem pPip_sz {r : qzX} (l : LvS t z rS rC d) (T : Tk t z k) (h : pPip t z rS rC d k n p c = some (.inr r)) : Tk t z r.1 ∧ k.1 + 1 ≤ r.1.1 ∧ r.2.1.length + 1 + 2 * k.1 ≤ 2 * r.1.1 ∧ 2 * r.2.2.1.length + 7 * k.1 ≤ 7 * r.1.1 + 1 ∧ 2 * r.2.2.2.1.length + k.1 ≤ r.1.1 + 1 ∧ nAr r.2.2.2.1 + k.1 ≤ r.1.1 ∧ nRd r.2.2.2.1 + k.1 ≤ r.1.1 := by
  unfold pPip at h
  obtain ⟨k1, e1, h⟩ := qzB_inr h
  obtain ⟨r1, e2, h⟩ := qzB_inr h
  cases h
  split at e1
  · rename_i w
    have a := T.adv (by rw [w]; decide) e1
    obtain ⟨c1, c2, c3, c4, c5, c6, c7⟩ := pCms_sz l _ _ _ _ _ _ _ a.1 e2
    rw [if_pos rfl] at c4
    refine ⟨c1, ?_⟩
    rw [if_pos w]
    simp only [List.length_cons, List.length_append, List.length_nil]
    omega
  · rename_i w
    cases e1
    obtain ⟨c1, c2, c3, c4, c5, c6, c7⟩ := pCms_sz l _ _ _ _ _ _ _ T e2
    rw [if_pos rfl] at c4
    rw [if_neg w]
    exact ⟨c1, c2, c3, c4, c5, c6, c7⟩
theorem pPps_sz (l : LvS t z rS rC d) : ∀ j b k n p c (r : qzX), Tk t z k → pPps t z rS rC d j b k n p c = some (.inr r) → Tk t z r.1 ∧ k.1 + 1 ≤ r.1.1 ∧ r.2.1.length + 2 * k.1 ≤ 2 * r.1.1 ∧ 2 * r.2.2.1.length + 7 * k.1 ≤ 7 * r.1.1 + (if b = 0 then 1 else 3) ∧ 2 * r.2.2.2.1.length + k.1 ≤ r.1.1 + 1 ∧ nAr r.2.2.2.1 + k.1 ≤ r.1.1 ∧ nRd r.2.2.2.1 + k.1 ≤ r.1.1
  | 0, b, k, n, p, c, r, T, h => by have h : (none : qzR qzX) = some (.inr r) := h; cases h
  | j + 1, b, k, n, p, c, r, T, h => by
    unfold pPps at h
    obtain ⟨r1, e1, h⟩ := qzB_inr h
    obtain ⟨a1, a2, a3, a4, a5, a6, a7⟩ := pPip_sz l T e1
    have hb : ∀ x : qzC, 2 * (if b = 0 then ([] : List qzC) else [x]).length + 1 = (if b = 0 then 1 else 3) := fun x => by split <;> rfl
    split at h
    · rename_i w
      obtain ⟨k1, e2, h⟩ := qzB_inr h
      obtain ⟨q, e3, h⟩ := qzB_inr h
      cases h
      have bb := a1.adv (by rcases w with w | w <;> rw [w] <;> decide) e2
      obtain ⟨c1, c2, c3, c4, c5, c6, c7⟩ := pPps_sz l j _ k1 _ _ _ q bb.1 e3
      refine ⟨c1, ?_⟩
      simp only [List.length_cons, List.length_append, List.length_nil, nAr_app, nRd_app]
      have h3 : (if (if r1.1.2.1 = 9766 then 1 else 2) = 0 then 1 else 3) ≤ 3 := by
        have : ∀ x : Nat, (if x = 0 then 1 else 3) ≤ 3 := fun x => by split <;> decide
        exact this _
      have := hb ((if b = 1 then 11 else 10), 0, p + 1 + r1.2.2.1.length, 0)
      omega
    · cases h
      refine ⟨a1, ?_⟩
      simp only [List.length_cons, List.length_append, List.length_nil]
      have := hb ((if b = 1 then 11 else 10), 0, p + 1 + r1.2.2.1.length, 0)
      omega
theorem pChn_sz {r : qzX} (l : LvS t z rS rC d) (T : Tk t z k) (h : pChn t z rS rC d k n p c = some (.inr r)) : SzC t z k r := by
  have := pPps_sz l _ _ _ _ _ _ _ T h
  rw [if_pos rfl] at this
  exact this
theorem pChs_sz (l : LvS t z rS rC d) : ∀ j k n p c (r : qzX), Tk t z k → pChs t z rS rC d j k n p c = some (.inr r) → Tk t z r.1 ∧ k.1 + r.2.2.2.2 ≤ r.1.1 ∧ r.2.1.length + 2 * k.1 ≤ 2 * r.1.1 ∧ 2 * r.2.2.1.length + 7 * k.1 ≤ 7 * r.1.1 ∧ 2 * r.2.2.2.1.length + k.1 ≤ r.1.1 ∧ nAr r.2.2.2.1 + k.1 ≤ r.1.1 ∧ nRd r.2.2.2.1 + k.1 ≤ r.1.1 ∧ (r.2.1 = [] ↔ r.2.2.2.2 = 0)
  | 0, k, n, p, c, r, T, h => by have h : (none : qzR qzX) = some (.inr r) := h; cases h
  | j + 1, k, n, p, c, r, T, h => by
    unfold pChs at h
    split at h
    · obtain ⟨r1, e1, h⟩ := qzB_inr h
      obtain ⟨k1, e2, h⟩ := qzB_inr h
      obtain ⟨q, e3, h⟩ := qzB_inr h
      cases h
      obtain ⟨a1, a2, a3, a4, a5, a6, a7⟩ := pChn_sz l T e1
      have b : Tk t z k1 ∧ r1.1.1 + 1 ≤ k1.1 := by
        split at e2
        · rename_i w; exact a1.adv (by rw [w]; decide) e2
        · exact (pEx_ok a1 (by decide) e2).2
      obtain ⟨c1, c2, c3, c4, c5, c6, c7, c8⟩ := pChs_sz l j k1 _ _ _ q b.1 e3
      refine ⟨c1, ?_⟩
      have hl : ∀ x y w : qzC, (if r1.1.2.1 = 38 then x :: (r1.2.2.1 ++ (y :: q.2.2.1)) else w :: (r1.2.2.1 ++ q.2.2.1)).length ≤ r1.2.2.1.length + q.2.2.1.length + 2 := fun x y w => by
        split <;> simp only [List.length_cons, List.length_append] <;> omega
      have := hl (16, 0, p + 1 + r1.2.2.1.length + 1, nI n) (21, 0, 0, 0) (0, 0, 0, 0)
      simp only [List.length_cons, List.length_append, List.length_nil, nAr_app, nRd_app]
      refine ⟨by omega, by omega, by omega, by omega, by omega, by omega, ⟨fun c => absurd c (List.cons_ne_nil _ _), fun c => absurd c (by omega)⟩⟩
    · cases h
      exact ⟨T, Nat.le_refl _, by simp only [List.length_nil]; omega, by simp only [List.length_nil]; omega, by simp only [List.length_nil]; omega, by simp only [nAr]; omega, by simp only [nRd]; omega, ⟨fun _ => rfl, fun _ => rfl⟩⟩
theorem pScr_sz {r : qzX} (l : LvS t z rS rC d) (T : Tk t z k) (h : pScr t z rS rC d k n p c = some (.inr r)) : SzS t z k r := by
  unfold pScr at h
  obtain ⟨q, e1, h⟩ := qzB_inr h
  cases h
  obtain ⟨c1, c2, c3, c4, c5, c6, c7, c8⟩ := pChs_sz l _ _ _ _ _ _ T e1
  refine ⟨c1, ?_⟩
  have hl : 2 * (if q.2.1 = [] then [((7, 0, 0, 0) : qzC)] else q.2.2.1).length ≤ 2 * q.2.2.1.length + 2 := by
    split
    · simp only [List.length_cons, List.length_nil]; omega
    · omega
  have hl2 : 2 * (if q.2.1 = [] then [((7, 0, 0, 0) : qzC)] else q.2.2.1).length + 7 * k.1 ≤ 7 * q.1.1 + 2 := by
    split
    · simp only [List.length_cons, List.length_nil]; omega
    · omega
  simp only [List.length_cons]
  omega
theorem pRec_sz : ∀ j d, LvS t z (pRec t z j false) (pRec t z j true) d
  | 0, d => by
    refine ⟨fun k n p c r _ h => ?_, fun k n p c r _ h => ?_⟩
    · have h : (none : qzR qzX) = some (.inr r) := h; cases h
    · have h : (none : qzR qzX) = some (.inr r) := h; cases h
  | j + 1, d => ⟨fun k n p c r T h => pScr_sz (pRec_sz j (d + 1)) T h, fun k n p c r T h => pChn_sz (pRec_sz j (d + 1)) T h⟩
/-! there is fuel enough -/
theorem pBdy_ne (l : LvS t z rS rC d) (ln : LvN t z rS rC d) (hd : d ≤ 5) (hz : z ≤ 700) (T : Tk t z k) : pBdy t z rS rC d k n p c cm ≠ none := by
  have nn : ∀ {α : Type} {a : α}, (qzK a : qzR α) ≠ none := fun c => nomatch c
  have nf : ∀ {α : Type} {s : Nat} {e : Int32}, (qzF s e : qzR α) ≠ none := fun c => nomatch c
  unfold pBdy
  split
  · rename_i q
    split
    · exact nf
    · rename_i q5
      have ln := ln (by omega)
      refine qzB_ne pAdv_ne (fun k1 e1 => ?_)
      have a := (T.a0 e1).1
      split
      · exact qzB_ne (ln.1 _ _ _ _ a) (fun r e2 => qzB_ne pEx_ne (fun _ _ => nn))
      · split
        · exact qzB_ne (ln.1 _ _ _ _ a) (fun r e2 => qzB_ne pEx_ne (fun _ _ => nn))
        · split
          · refine qzB_ne (ln.2 _ _ _ _ a) (fun r e2 => qzB_ne pEx_ne (fun k2 e3 => qzB_ne pEw_ne (fun k3 e4 => ?_)))
            have b := (l.2 _ _ _ _ _ a e2).1
            have c2 := (pEx_ok b (by decide) e3).2.1
            have c3 := (pEw_ok c2 e4).2.1
            refine qzB_ne (ln.1 _ _ _ _ c3) (fun r1 e5 => qzB_ne ?_ (fun r2 e6 => qzB_ne pEw_ne (fun _ _ => nn)))
            have b1 := (l.1 _ _ _ _ _ c3 e5).1
            unfold pEls
            split
            · refine qzB_ne pAdv_ne (fun k4 e7 => qzB_ne (ln.1 _ _ _ _ (b1.a0 e7).1) (fun _ _ => nn))
            · exact nn
          · split
            · refine qzB_ne (ln.2 _ _ _ _ a) (fun r e2 => qzB_ne pEx_ne (fun k2 e3 => qzB_ne pEw_ne (fun k3 e4 => ?_)))
              have b := (l.2 _ _ _ _ _ a e2).1
              have c2 := (pEx_ok b (by decide) e3).2.1
              have c3 := (pEw_ok c2 e4).2.1
              exact qzB_ne (ln.1 _ _ _ _ c3) (fun r1 e5 => qzB_ne pEw_ne (fun _ _ => nn))
            · unfold pDef
              split
              · refine qzB_ne pAdv_ne (fun k2 e2 => qzB_ne pEx_ne (fun k3 e3 => ?_))
                have c2 := (a.a0 e2).1
                have c3 := (pEx_ok c2 (by decide) e3).2.1
                exact qzB_ne (ln.1 _ _ _ _ c3) (fun r1 e5 => qzB_ne pEx_ne (fun _ _ => nn))
              · exact nf
  · split
    · rename_i q
      refine qzB_ne pAdv_ne (fun k1 e1 => ?_)
      have a := T.adv (by rw [q.1]; decide) e1
      split
      · exact qzB_ne pAdv_ne (fun _ _ => qzB_ne pArg_ne (fun _ _ => nn))
      · exact qzB_ne (pAs_ne _ _ _ a.1 (by omega)) (fun _ _ => nn)
    · exact nf
theorem pCmd_ne (l : LvS t z rS rC d) (ln : LvN t z rS rC d) (hd : d ≤ 5) (hz : z ≤ 700) (T : Tk t z k) : pCmd t z rS rC d k n p c ≠ none := by
  unfold pCmd
  refine qzB_ne (pBdy_ne l ln hd hz T) (fun r e => qzB_ne ?_ (fun _ _ => fun c => nomatch c))
  have a := pBdy_sz l T e
  exact pRs_ne _ _ _ a.1 (by have := a.1.2.1; omega)
theorem pCms_ne (l : LvS t z rS rC d) (ln : LvN t z rS rC d) (hd : d ≤ 5) (hz : z ≤ 700) : ∀ j fi k n p c, Tk t z k → z < j + k.1 → pCms t z rS rC d j fi k n p c ≠ none
  | 0, fi, k, n, p, c, T, h => by have := T.2.1; omega
  | j + 1, fi, k, n, p, c, T, h => by
    unfold pCms
    refine qzB_ne (pCmd_ne l ln hd hz T) (fun r e => ?_)
    have a := pCmd_sz l T e
    split
    · refine qzB_ne pAdv_ne (fun k1 e1 => qzB_ne ?_ (fun _ _ => fun c => nomatch c))
      have b := a.1.a0 e1
      have := a.2.1
      exact pCms_ne l ln hd hz j _ _ _ _ _ b.1 (by omega)
    · exact fun c => nomatch c
theorem pPip_ne (l : LvS t z rS rC d) (ln : LvN t z rS rC d) (hd : d ≤ 5) (hz : z ≤ 700) (T : Tk t z k) : pPip t z rS rC d k n p c ≠ none := by
  unfold pPip
  refine qzB_ne ?_ (fun k1 e => qzB_ne ?_ (fun _ _ => fun c => nomatch c))
  · split
    · exact pAdv_ne
    · exact fun c => nomatch c
  · split at e
    · exact pCms_ne l ln hd hz _ _ _ _ _ _ (T.a0 e).1 (by have := T.2.1; omega)
    · cases e
      exact pCms_ne l ln hd hz _ _ _ _ _ _ T (by omega)
theorem pPps_ne (l : LvS t z rS rC d) (ln : LvN t z rS rC d) (hd : d ≤ 5) (hz : z ≤ 700) : ∀ j b k n p c, Tk t z k → z < j + k.1 → pPps t z rS rC d j b k n p c ≠ none
  | 0, b, k, n, p, c, T, h => by have := T.2.1; omega
  | j + 1, b, k, n, p, c, T, h => by
    unfold pPps
    refine qzB_ne (pPip_ne l ln hd hz T) (fun r e => ?_)
    have a := pPip_sz l T e
    split
    · refine qzB_ne pAdv_ne (fun k1 e1 => qzB_ne ?_ (fun _ _ => fun c => nomatch c))
      have b := a.1.a0 e1
      exact pPps_ne l ln hd hz j _ _ _ _ _ b.1 (by omega)
    · exact fun c => nomatch c
theorem pChn_ne (l : LvS t z rS rC d) (ln : LvN t z rS rC d) (hd : d ≤ 5) (hz : z ≤ 700) (T : Tk t z k) : pChn t z rS rC d k n p c ≠ none := pPps_ne l ln hd hz _ _ _ _ _ _ T (by omega)
theorem pChs_ne (l : LvS t z rS rC d) (ln : LvN t z rS rC d) (hd : d ≤ 5) (hz : z ≤ 700) : ∀ j k n p c, Tk t z k → z < j + k.1 → pChs t z rS rC d j k n p c ≠ none
  | 0, k, n, p, c, T, h => by have := T.2.1; omega
  | j + 1, k, n, p, c, T, h => by
    unfold pChs
    split
    · refine qzB_ne (pChn_ne l ln hd hz T) (fun r e => qzB_ne ?_ (fun k1 e1 => qzB_ne ?_ (fun _ _ => fun c => nomatch c)))
      · split
        · exact pAdv_ne
        · exact pEx_ne
      · have a := pChn_sz l T e
        have b : Tk t z k1 ∧ r.1.1 ≤ k1.1 := by
          split at e1
          · exact a.1.a0 e1
          · have q := (pEx_ok a.1 (by decide) e1).2
            exact ⟨q.1, by omega⟩
        have := a.2.1
        exact pChs_ne l ln hd hz j _ _ _ _ b.1 (by omega)
    · exact fun c => nomatch c
theorem pScr_ne (l : LvS t z rS rC d) (ln : LvN t z rS rC d) (hd : d ≤ 5) (hz : z ≤ 700) (T : Tk t z k) : pScr t z rS rC d k n p c ≠ none := by
  unfold pScr
  exact qzB_ne (pChs_ne l ln hd hz _ _ _ _ _ T (by omega)) (fun _ _ => fun c => nomatch c)
theorem pRec_ne (hz : z ≤ 700) : ∀ j d, 5 ≤ j + d → LvN t z (pRec t z j false) (pRec t z j true) d
  | 0, d, h => fun c => absurd c (by omega)
  | j + 1, d, h => fun c => ⟨fun k n p c' T => pScr_ne (pRec_sz j (d + 1)) (pRec_ne hz j (d + 1) (by omega)) (by omega) hz T, fun k n p c' T => pChn_ne (pRec_sz j (d + 1)) (pRec_ne hz j (d + 1) (by omega)) (by omega) hz T⟩
end QZ2
