/-! THE PARSER, PURE: tokens, sizes, fuel -/
section QZ1
variable {t : Nat → Int32} {z : Nat} {k k1 k2 : qzT} {n p c d j e s cm : Nat}
theorem qzB_inr {α β : Type} {x : qzR α} {f : α → qzR β} {b : β} (h : qzB x f = some (.inr b)) : ∃ a, x = some (.inr a) ∧ f a = some (.inr b) := by
  cases x with
  | none => have h : (none : qzR β) = some (.inr b) := h; cases h
  | some y => cases y with
    | inl e => have h : (some (.inl e) : qzR β) = some (.inr b) := h; cases h
    | inr a => exact ⟨a, rfl, h⟩
theorem qzB_inl {α β : Type} {x : qzR α} {f : α → qzR β} {b : Nat × Int32} (h : qzB x f = some (.inl b)) : x = some (.inl b) ∨ ∃ a, x = some (.inr a) ∧ f a = some (.inl b) := by
  cases x with
  | none => have h : (none : qzR β) = some (.inl b) := h; cases h
  | some y => cases y with
    | inl e => have h : (some (.inl e) : qzR β) = some (.inl b) := h; cases h; exact Or.inl rfl
    | inr a => exact Or.inr ⟨a, rfl, h⟩
theorem qzB_ne {α β : Type} {x : qzR α} {f : α → qzR β} (hx : x ≠ none) (hf : ∀ a, x = some (.inr a) → f a ≠ none) : qzB x f ≠ none := by
  cases x with
  | none => exact absurd rfl hx
  | some y => cases y with
    | inl e => exact fun c => nomatch (show (some (.inl e) : qzR β) = none from c)
    | inr a => exact hf a rfl
theorem skB_ge : ∀ n e, e ≤ skB t z n e
  | 0, e => Nat.le_refl _
  | n + 1, e => by
    unfold skB
    split
    · exact Nat.le_trans (Nat.le_succ e) (skB_ge n (e + 1))
    · exact Nat.le_refl _
theorem skB_le : ∀ n e, e ≤ z → skB t z n e ≤ z
  | 0, e, h => h
  | n + 1, e, h => by
    unfold skB
    split
    · rename_i q; exact skB_le n (e + 1) (by omega)
    · exact h
theorem skW_ge : ∀ n e, e ≤ skW t z n e
  | 0, e => Nat.le_refl _
  | n + 1, e => by
    unfold skW
    split
    · exact Nat.le_trans (Nat.le_succ e) (skW_ge n (e + 1))
    · exact Nat.le_refl _
theorem skW_le : ∀ n e, e ≤ z → skW t z n e ≤ z
  | 0, e, h => h
  | n + 1, e, h => by
    unfold skW
    split
    · rename_i q; exact skW_le n (e + 1) (by omega)
    · exact h
theorem skW_gt (h : s < z) (l : isLt (t s) = true) : s + 1 ≤ skW t z (z - s) s := by
  obtain ⟨m, e⟩ : ∃ m, z - s = m + 1 := ⟨z - s - 1, by omega⟩
  rw [e]
  unfold skW
  rw [if_pos ⟨h, l⟩]
  exact skW_ge m (s + 1)
theorem two2_v {a b : Int32} : two2 a b = 0 ∨ two2 a b = 9766 ∨ two2 a b = 31868 ∨ two2 a b = 15934 ∨ two2 a b = 15398 ∨ two2 a b = 15910 := by
  unfold two2
  repeat' split
  all_goals simp
theorem sg_v {a : Int32} : (if isSg a = true then a else 2) ≠ 0 ∧ (if isSg a = true then a else 2) ≠ 1 := by
  split
  · rename_i g
    exact ⟨fun e => by rw [e] at g; exact absurd g (by decide), fun e => by rw [e] at g; exact absurd g (by decide)⟩
  · decide
theorem tkA_1 : (tkA t z s).1 = s := by
  unfold tkA
  repeat' split
  all_goals rfl
theorem tkA_0 (h : z ≤ s) : tkA t z s = (s, 0, s) := if_pos h
theorem tkA_le (h : s ≤ z) : (tkA t z s).2.2 ≤ z := by
  unfold tkA
  split
  · exact h
  · split
    · exact skW_le _ _ h
    · split
      · rename_i g; show s + 2 ≤ z; omega
      · show s + 1 ≤ z; omega
theorem tkA_lt (h : s < z) : s < (tkA t z s).2.2 ∧ (tkA t z s).2.1 ≠ 0 := by
  unfold tkA
  rw [if_neg (by omega)]
  split
  · rename_i l
    exact ⟨skW_gt h l, show (1 : Int32) ≠ 0 by decide⟩
  · split
    · rename_i g; exact ⟨by show s < s + 2; omega, g.2⟩
    · exact ⟨Nat.lt_succ_self s, sg_v.1⟩
theorem tkA_w (h : (tkA t z s).2.1 = 1) : s < z ∧ isLt (t s) = true ∧ tkA t z s = (s, 1, skW t z (z - s) s) := by
  unfold tkA at h ⊢
  split at h
  · exact absurd (show (0 : Int32) = 1 from h) (by decide)
  · rename_i g
    rw [if_neg g]
    split at h
    · rename_i l
      rw [if_pos l]
      exact ⟨by omega, l, rfl⟩
    · split at h
      · have h : two2 (t s) (t (s + 1)) = 1 := h
        rcases two2_v (a := t s) (b := t (s + 1)) with e | e | e | e | e | e <;> rw [e] at h <;> exact absurd h (by decide)
      · exact absurd h sg_v.2
/-- a token of the text -/
def Tk (t : Nat → Int32) (z : Nat) (k : qzT) : Prop := k = tkA t z k.1 ∧ k.1 ≤ z ∧ ¬ tooL k
theorem Tk.le (T : Tk t z k) : k.2.2 ≤ z := by
  have := tkA_le (t := t) T.2.1
  rw [← T.1] at this
  exact this
theorem Tk.ge (T : Tk t z k) : k.1 ≤ k.2.2 := by
  by_cases h : k.1 < z
  · have := tkA_lt (t := t) h
    rw [← T.1] at this
    omega
  · have e := T.1
    rw [tkA_0 (by omega)] at e
    rw [e]
    exact Nat.le_refl _
theorem Tk.lt (T : Tk t z k) (h : k.2.1 ≠ 0) : k.1 < k.2.2 ∧ k.1 < z := by
  by_cases g : k.1 < z
  · have := tkA_lt (t := t) g
    rw [← T.1] at this
    exact ⟨this.1, g⟩
  · have e := T.1
    rw [tkA_0 (by omega)] at e
    exact absurd (by rw [e]) h
theorem Tk.w (T : Tk t z k) (h : k.2.1 = 1) : k.1 < z ∧ isLt (t k.1) = true ∧ k = (k.1, 1, skW t z (z - k.1) k.1) ∧ k.2.2 - k.1 ≤ 12 := by
  have h1 := h
  rw [T.1] at h1
  obtain ⟨a, b, c⟩ := tkA_w h1
  exact ⟨a, b, T.1.trans c, Nat.le_of_not_lt fun q => T.2.2 ⟨h, q⟩⟩
theorem tkN_1 : (tkN t z e).1 = skB t z (z - e) e := tkA_1
theorem pAdv_ne : pAdv t z k ≠ none := by
  unfold pAdv
  split
  · exact fun c => nomatch c
  · exact fun c => nomatch c
theorem pAdv_ok (hz : k.2.2 ≤ z) (h : pAdv t z k = some (.inr k1)) : Tk t z k1 ∧ k.2.2 ≤ k1.1 := by
  unfold pAdv at h
  split at h
  · cases h
  · rename_i q
    cases h
    refine ⟨⟨?_, ?_, q⟩, ?_⟩
    · rw [tkN_1]; rfl
    · rw [tkN_1]; exact skB_le _ _ hz
    · rw [tkN_1]; exact skB_ge _ _
theorem Tk.a0 (T : Tk t z k) (h : pAdv t z k = some (.inr k1)) : Tk t z k1 ∧ k.1 ≤ k1.1 := by
  have a := pAdv_ok T.le h
  have b := T.ge
  exact ⟨a.1, by omega⟩
theorem Tk.adv (T : Tk t z k) (c : k.2.1 ≠ 0) (h : pAdv t z k = some (.inr k1)) : Tk t z k1 ∧ k.1 + 1 ≤ k1.1 := by
  have a := pAdv_ok T.le h
  have b := (T.lt c).1
  exact ⟨a.1, by omega⟩
theorem pEx_ok {c : Int32} (T : Tk t z k) (c0 : c ≠ 0) (h : pEx t z k c = some (.inr k1)) : k.2.1 = c ∧ Tk t z k1 ∧ k.1 + 1 ≤ k1.1 := by
  unfold pEx at h
  split at h
  · rename_i q; exact ⟨q, T.adv (by rw [q]; exact c0) h⟩
  · cases h
theorem pEx_ne {c : Int32} : pEx t z k c ≠ none := by
  unfold pEx
  split
  · exact pAdv_ne
  · exact fun c => nomatch c
theorem pEw_ok {v : Int64} (T : Tk t z k) (h : pEw t z k v = some (.inr k1)) : isW t k v ∧ Tk t z k1 ∧ k.1 + 1 ≤ k1.1 := by
  unfold pEw at h
  split at h
  · rename_i q; exact ⟨q, T.adv (by rw [q.1]; decide) h⟩
  · cases h
theorem pEw_ne {v : Int64} : pEw t z k v ≠ none := by
  unfold pEw
  split
  · exact pAdv_ne
  · exact fun c => nomatch c
def nAr : List qzM → Nat
  | [] => 0
  | m :: l => m.2.2.2.1.length + nAr l
def nRd : List qzM → Nat
  | [] => 0
  | m :: l => m.2.2.2.2.length + nRd l
theorem nAr_app : ∀ a b, nAr (a ++ b) = nAr a + nAr b
  | [], b => (Nat.zero_add _).symm
  | m :: a, b => by show _ + nAr (a ++ b) = _ + nAr a + nAr b; rw [nAr_app a b, Nat.add_assoc]
theorem nRd_app : ∀ a b, nRd (a ++ b) = nRd a + nRd b
  | [], b => (Nat.zero_add _).symm
  | m :: a, b => by show _ + nRd (a ++ b) = _ + nRd a + nRd b; rw [nRd_app a b, Nat.add_assoc]
theorem nAr_cons {m : qzM} {l : List qzM} : nAr (m :: l) = m.2.2.2.1.length + nAr l := rfl
theorem nRd_cons {m : qzM} {l : List qzM} : nRd (m :: l) = m.2.2.2.2.length + nRd l := rfl
theorem pArg_sz {r : qzT × Int32 × Int64} (T : Tk t z k) (h : pArg t z k = some (.inr r)) : Tk t z r.1 ∧ k.1 + 1 ≤ r.1.1 ∧ (r.2.1 = 11 ∨ r.2.1 = 12 ∨ r.2.1 = 13) := by
  unfold pArg at h
  split at h
  · rename_i c
    obtain ⟨k1, e1, h⟩ := qzB_inr h
    cases h
    have a := T.adv (by rw [c]; decide) e1
    exact ⟨a.1, a.2, Or.inl rfl⟩
  · split at h
    · rename_i c
      obtain ⟨k1, e1, h⟩ := qzB_inr h
      have a := T.adv (by rw [c]; decide) e1
      split at h
      · rename_i c1
        obtain ⟨k2, e2, h⟩ := qzB_inr h
        cases h
        have b := a.1.adv (by rw [c1]; decide) e2
        exact ⟨b.1, by show k.1 + 1 ≤ k2.1; omega, Or.inr (Or.inr rfl)⟩
      · split at h
        · rename_i c1
          obtain ⟨k2, e2, h⟩ := qzB_inr h
          cases h
          have b := a.1.adv (by rw [c1]; decide) e2
          exact ⟨b.1, by show k.1 + 1 ≤ k2.1; omega, Or.inr (Or.inl rfl)⟩
        · cases h
    · cases h
theorem pArg_ne : pArg t z k ≠ none := by
  unfold pArg
  split
  · exact qzB_ne pAdv_ne (fun a _ => fun c => nomatch c)
  · split
    · refine qzB_ne pAdv_ne (fun a _ => ?_)
      split
      · exact qzB_ne pAdv_ne (fun a _ => fun c => nomatch c)
      · split
        · exact qzB_ne pAdv_ne (fun a _ => fun c => nomatch c)
        · exact fun c => nomatch c
    · exact fun c => nomatch c
theorem pAs_sz : ∀ j k n (r : qzT × List qzN × List spA), Tk t z k → pAs t z j k n = some (.inr r) → Tk t z r.1 ∧ k.1 + r.2.1.length ≤ r.1.1 ∧ r.2.2.length = r.2.1.length
  | 0, k, n, r, T, h => by have h : (none : qzR (qzT × List qzN × List spA)) = some (.inr r) := h; cases h
  | j + 1, k, n, r, T, h => by
    unfold pAs at h
    split at h
    · obtain ⟨r1, e1, h⟩ := qzB_inr h
      obtain ⟨q, e2, h⟩ := qzB_inr h
      cases h
      have a := pArg_sz T e1
      have b := pAs_sz j r1.1 (n + 1) q a.1 e2
      refine ⟨b.1, ?_, ?_⟩
      · simp only [List.length_cons]; omega
      · simp only [List.length_cons]; omega
    · cases h
      exact ⟨T, Nat.le_refl _, rfl⟩
theorem pAs_ne : ∀ j k n, Tk t z k → z < j + k.1 → pAs t z j k n ≠ none
  | 0, k, n, T, h => by have := T.2.1; omega
  | j + 1, k, n, T, h => by
    unfold pAs
    split
    · refine qzB_ne pArg_ne (fun a ha => qzB_ne ?_ (fun b _ => fun c => nomatch c))
      have b := pArg_sz T ha
      exact pAs_ne j a.1 (n + 1) b.1 (by omega)
    · exact fun c => nomatch c
theorem rs_n0 {c : Int32} (h : isRs c) : c ≠ 0 := by rcases h with rfl | rfl | rfl | rfl | rfl <;> decide
theorem pRd_sz {r : qzT × Int32 × Int32 × Int32 × Int64} (T : Tk t z k) (s : stRd t z k) (h : pRd t z k = some (.inr r)) : Tk t z r.1 ∧ k.1 + 2 ≤ r.1.1 := by
  unfold pRd at h
  obtain ⟨k1, e1, h⟩ := qzB_inr h
  obtain ⟨k2, e2, h⟩ := qzB_inr h
  have a : Tk t z k2 ∧ k.1 + 1 ≤ k2.1 := by
    split at e1
    · rename_i c
      have a := T.adv (by rw [c.1.1]; decide) e1
      have b := a.1.a0 e2
      exact ⟨b.1, by omega⟩
    · rename_i c
      cases e1
      exact T.adv (rs_n0 (s.resolve_left c)) e2
  have fin : ∀ {k3 : qzT}, k2.2.1 ≠ 0 → pAdv t z k2 = some (.inr k3) → Tk t z k3 ∧ k.1 + 2 ≤ k3.1 := fun c e3 => by
    have b := a.1.adv c e3
    exact ⟨b.1, by omega⟩
  split at h
  · split at h
    · rename_i c
      obtain ⟨k3, e3, h⟩ := qzB_inr h
      cases h
      exact fin (by rw [c]; decide) e3
    · split at h
      · rename_i c
        obtain ⟨k3, e3, h⟩ := qzB_inr h
        cases h
        exact fin (by rw [c.1]; decide) e3
      · cases h
  · split at h
    · rename_i c
      obtain ⟨k3, e3, h⟩ := qzB_inr h
      cases h
      exact fin (by rw [c]; decide) e3
    · cases h
theorem pRd_ne : pRd t z k ≠ none := by
  unfold pRd
  refine qzB_ne ?_ (fun a _ => qzB_ne pAdv_ne (fun b _ => ?_))
  · split
    · exact pAdv_ne
    · exact fun c => nomatch c
  · split
    · split
      · exact qzB_ne pAdv_ne (fun a _ => fun c => nomatch c)
      · split
        · exact qzB_ne pAdv_ne (fun a _ => fun c => nomatch c)
        · exact fun c => nomatch c
    · split
      · exact qzB_ne pAdv_ne (fun a _ => fun c => nomatch c)
      · exact fun c => nomatch c
theorem pRs_sz : ∀ j k n (r : qzT × List qzN × List spR), Tk t z k → pRs t z j k n = some (.inr r) → Tk t z r.1 ∧ k.1 + 2 * r.2.1.length ≤ r.1.1 ∧ r.2.2.length = r.2.1.length
  | 0, k, n, r, T, h => by have h : (none : qzR (qzT × List qzN × List spR)) = some (.inr r) := h; cases h
  | j + 1, k, n, r, T, h => by
    unfold pRs at h
    split at h
    · rename_i s
      obtain ⟨r1, e1, h⟩ := qzB_inr h
      obtain ⟨q, e2, h⟩ := qzB_inr h
      cases h
      have a := pRd_sz T s e1
      have b := pRs_sz j r1.1 (n + 1) q a.1 e2
      refine ⟨b.1, ?_, ?_⟩
      · simp only [List.length_cons]; omega
      · simp only [List.length_cons]; omega
    · cases h
      exact ⟨T, Nat.le_refl _, rfl⟩
theorem pRs_ne : ∀ j k n, Tk t z k → z < j + k.1 → pRs t z j k n ≠ none
  | 0, k, n, T, h => by have := T.2.1; omega
  | j + 1, k, n, T, h => by
    unfold pRs
    split
    · rename_i s
      refine qzB_ne pRd_ne (fun a ha => qzB_ne ?_ (fun b _ => fun c => nomatch c))
      have b := pRd_sz T s ha
      exact pRs_ne j a.1 (n + 1) b.1 (by omega)
    · exact fun c => nomatch c
end QZ1
