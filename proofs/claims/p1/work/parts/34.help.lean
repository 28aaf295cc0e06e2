/-! THE LAW'S HELPERS: a call of the class inside a try (PRINTED by wip/whole/genhelp.py) -/
theorem mx_hk_13 : Cond.classLink RL 13 "java/lang/IllegalArgumentException" ∈ mx_tbl := (mx_im mx_t6 14 rfl rfl)
theorem mx_hc_13 : Cond.castable "java/lang/IllegalArgumentException" "java/lang/IllegalArgumentException" ∈ lw_tbl := mx_t6 _ (List.mem_of_getElem? (i := 51) rfl)
theorem mx_hk_18 : Cond.classLink RL 18 "java/lang/IllegalStateException" ∈ mx_tbl := (mx_im mx_t7 30 rfl rfl)
theorem mx_hc_18 : Cond.castable "java/lang/IllegalStateException" "java/lang/IllegalStateException" ∈ lw_tbl := mx_t7 _ (List.mem_of_getElem? (i := 41) rfl)
theorem mx_hk_24 : Cond.classLink RL 24 "java/lang/IndexOutOfBoundsException" ∈ mx_tbl := (mx_im mx_t7 63 rfl rfl)
theorem mx_hc_24 : Cond.castable "java/lang/IndexOutOfBoundsException" "java/lang/IndexOutOfBoundsException" ∈ lw_tbl := mx_t7 _ (List.mem_of_getElem? (i := 70) rfl)
theorem k_L_load {d : Nat} {h : mxH} (hd : 2 ≤ d) {c out : Nat} {P : Int32 → mxH → Prop} {X : String → mxH → Prop} {R : Int32 → mxH → Prop} (hc : hpK h c = 11) (M : mx_SM mY_X11_load (d - 1) [.ref c] h (mx_KI P X))
    (kk : ∀ v h1, P v h1 → hpK h1 out = 15 ∧ hpZ h1 out = 1 ∧ R 0 (hsL h1 out 0 v.toInt64)) (kx : ∀ E h1, X E h1 → E = "java/lang/IllegalArgumentException" ∧ R 1 h1) : mx_SM mY_L_load d [.ref c, .ref out] h (mx_KI R fun _ _ => False) := by
  refine mx_SM_of (by decide) (Nat.le_of_ble_eq_true rfl) ?_
  show mx_SX mY_L_load d 0 [(0, .ref c), (1, .ref out)] [] h _
  refine mx_aload_n (pc := 0) 1 (mx_dd dd_L_load 0 (0, .aload_n 1, 1) rfl) rfl rfl ?_
  refine mx_iconst (pc := 1) (v := (0 : Int32)) (mx_dd dd_L_load 1 (1, .iconst 0, 1) rfl) (by decide) ?_
  refine mx_aload_n (pc := 2) 0 (mx_dd dd_L_load 2 (2, .aload_n 0, 1) rfl) rfl rfl ?_
  refine mx_callTry (pc := 3) (Y := mY_X11_load) (d1 := d - 1) (nm := "") (As := []) (st := [.int 0, .ref out]) mx_ml_L_7 mx_y_X11_load rfl hc (by decide) rfl (by simp [Value.category]) rfl (mx_dd dd_L_load 3 (3, .invokevirtual 7, 3) rfl) (by omega) (by decide) M (fun v h1 q => ?_) (fun E h1 q => ?_)
  · rcases q with ⟨w, q1, q2⟩ | ⟨E, q1, _⟩
    · cases q1
      obtain ⟨g1, g2, g3⟩ := kk w h1 q2
      refine mx_i2l (pc := 6) (mx_dd dd_L_load 4 (6, .i2l, 1) rfl) ?_
      refine mx_last (pc := 7) g1 (by rw [g2]; exact vp_in_nI (n := 0) (by omega) (by omega)) (mx_dd dd_L_load 5 (7, .lastore, 1) rfl) ?_
      refine mx_goto (pc := 8) 14 (mx_dd dd_L_load 6 (8, .goto 6, 3) rfl) rfl ?_
      refine mx_iconst (pc := 14) (v := (0 : Int32)) (mx_dd dd_L_load 10 (14, .iconst 0, 1) rfl) (by decide) ?_
      exact mx_ireturn (pc := 15) (mx_dd dd_L_load 11 (15, .ireturn, 1) rfl) rfl rfl (Or.inl ⟨0, rfl, g3⟩)
    · cases q1
  · rcases q with ⟨w, q1, _⟩ | ⟨E9, q1, q2⟩
    · cases q1
    · cases q1
      obtain ⟨rfl, hR⟩ := kx E h1 q2
      exact ⟨[], ⟨0, 8, 11, 13⟩, [], "java/lang/IllegalArgumentException", 2, 1, 1, 1, rfl, (fun z hz => by cases hz), rfl, by decide, mx_hk_13, mx_hc_13, (.inl ⟨2, (mx_dd dd_L_load 7 (11, .astore_n 2, 1) rfl), rfl, rfl⟩), by decide, (mx_dd dd_L_load 8 (12, .iconst 1, 1) rfl), by decide, (mx_dd dd_L_load 9 (13, .ireturn, 1) rfl), rfl, Or.inl ⟨1, rfl, hR⟩⟩
theorem k_L_type {d : Nat} {h : mxH} (hd : 2 ≤ d) {c out : Nat} {P : Int32 → mxH → Prop} {X : String → mxH → Prop} {R : Int32 → mxH → Prop} (hc : hpK h c = 11) (M : mx_SM mY_X11_type (d - 1) [.ref c] h (mx_KI P X))
    (kk : ∀ v h1, P v h1 → hpK h1 out = 15 ∧ hpZ h1 out = 1 ∧ R 0 (hsL h1 out 0 v.toInt64)) (kx : ∀ E h1, X E h1 → E = "java/lang/IllegalStateException" ∧ R 1 h1) : mx_SM mY_L_type d [.ref c, .ref out] h (mx_KI R fun _ _ => False) := by
  refine mx_SM_of (by decide) (Nat.le_of_ble_eq_true rfl) ?_
  show mx_SX mY_L_type d 0 [(0, .ref c), (1, .ref out)] [] h _
  refine mx_aload_n (pc := 0) 1 (mx_dd dd_L_type 0 (0, .aload_n 1, 1) rfl) rfl rfl ?_
  refine mx_iconst (pc := 1) (v := (0 : Int32)) (mx_dd dd_L_type 1 (1, .iconst 0, 1) rfl) (by decide) ?_
  refine mx_aload_n (pc := 2) 0 (mx_dd dd_L_type 2 (2, .aload_n 0, 1) rfl) rfl rfl ?_
  refine mx_callTry (pc := 3) (Y := mY_X11_type) (d1 := d - 1) (nm := "") (As := []) (st := [.int 0, .ref out]) mx_ml_L_15 mx_y_X11_type rfl hc (by decide) rfl (by simp [Value.category]) rfl (mx_dd dd_L_type 3 (3, .invokevirtual 15, 3) rfl) (by omega) (by decide) M (fun v h1 q => ?_) (fun E h1 q => ?_)
  · rcases q with ⟨w, q1, q2⟩ | ⟨E, q1, _⟩
    · cases q1
      obtain ⟨g1, g2, g3⟩ := kk w h1 q2
      refine mx_i2l (pc := 6) (mx_dd dd_L_type 4 (6, .i2l, 1) rfl) ?_
      refine mx_last (pc := 7) g1 (by rw [g2]; exact vp_in_nI (n := 0) (by omega) (by omega)) (mx_dd dd_L_type 5 (7, .lastore, 1) rfl) ?_
      refine mx_goto (pc := 8) 14 (mx_dd dd_L_type 6 (8, .goto 6, 3) rfl) rfl ?_
      refine mx_iconst (pc := 14) (v := (0 : Int32)) (mx_dd dd_L_type 10 (14, .iconst 0, 1) rfl) (by decide) ?_
      exact mx_ireturn (pc := 15) (mx_dd dd_L_type 11 (15, .ireturn, 1) rfl) rfl rfl (Or.inl ⟨0, rfl, g3⟩)
    · cases q1
  · rcases q with ⟨w, q1, _⟩ | ⟨E9, q1, q2⟩
    · cases q1
    · cases q1
      obtain ⟨rfl, hR⟩ := kx E h1 q2
      exact ⟨[], ⟨0, 8, 11, 18⟩, [], "java/lang/IllegalStateException", 2, 1, 1, 1, rfl, (fun z hz => by cases hz), rfl, by decide, mx_hk_18, mx_hc_18, (.inl ⟨2, (mx_dd dd_L_type 7 (11, .astore_n 2, 1) rfl), rfl, rfl⟩), by decide, (mx_dd dd_L_type 8 (12, .iconst 1, 1) rfl), by decide, (mx_dd dd_L_type 9 (13, .ireturn, 1) rfl), rfl, Or.inl ⟨1, rfl, hR⟩⟩
theorem k_L_handleKind {d : Nat} {h : mxH} (hd : 2 ≤ d) {c out : Nat} {p0 : Int32} {P : Int32 → mxH → Prop} {X : String → mxH → Prop} {R : Int32 → mxH → Prop} (hc : hpK h c = 11) (M : mx_SM mY_X11_handleKind (d - 1) [.ref c, .int p0] h (mx_KI P X))
    (kk : ∀ v h1, P v h1 → hpK h1 out = 15 ∧ hpZ h1 out = 1 ∧ R 0 (hsL h1 out 0 v.toInt64)) (kx : ∀ E h1, X E h1 → E = "java/lang/IndexOutOfBoundsException" ∧ R 1 h1) : mx_SM mY_L_handleKind d [.ref c, .int p0, .ref out] h (mx_KI R fun _ _ => False) := by
  refine mx_SM_of (by decide) (Nat.le_of_ble_eq_true rfl) ?_
  show mx_SX mY_L_handleKind d 0 [(0, .ref c), (1, .int p0), (2, .ref out)] [] h _
  refine mx_aload_n (pc := 0) 2 (mx_dd dd_L_handleKind 0 (0, .aload_n 2, 1) rfl) rfl rfl ?_
  refine mx_iconst (pc := 1) (v := (0 : Int32)) (mx_dd dd_L_handleKind 1 (1, .iconst 0, 1) rfl) (by decide) ?_
  refine mx_aload_n (pc := 2) 0 (mx_dd dd_L_handleKind 2 (2, .aload_n 0, 1) rfl) rfl rfl ?_
  refine mx_iload_n (pc := 3) 1 (mx_dd dd_L_handleKind 3 (3, .iload_n 1, 1) rfl) rfl rfl ?_
  refine mx_callTry (pc := 4) (Y := mY_X11_handleKind) (d1 := d - 1) (nm := "") (As := [.int p0]) (st := [.int 0, .ref out]) mx_ml_L_20 mx_y_X11_handleKind rfl hc (by decide) rfl (by simp [Value.category]) rfl (mx_dd dd_L_handleKind 4 (4, .invokevirtual 20, 3) rfl) (by omega) (by decide) M (fun v h1 q => ?_) (fun E h1 q => ?_)
  · rcases q with ⟨w, q1, q2⟩ | ⟨E, q1, _⟩
    · cases q1
      obtain ⟨g1, g2, g3⟩ := kk w h1 q2
      refine mx_i2l (pc := 7) (mx_dd dd_L_handleKind 5 (7, .i2l, 1) rfl) ?_
      refine mx_last (pc := 8) g1 (by rw [g2]; exact vp_in_nI (n := 0) (by omega) (by omega)) (mx_dd dd_L_handleKind 6 (8, .lastore, 1) rfl) ?_
      refine mx_goto (pc := 9) 15 (mx_dd dd_L_handleKind 7 (9, .goto 6, 3) rfl) rfl ?_
      refine mx_iconst (pc := 15) (v := (0 : Int32)) (mx_dd dd_L_handleKind 11 (15, .iconst 0, 1) rfl) (by decide) ?_
      exact mx_ireturn (pc := 16) (mx_dd dd_L_handleKind 12 (16, .ireturn, 1) rfl) rfl rfl (Or.inl ⟨0, rfl, g3⟩)
    · cases q1
  · rcases q with ⟨w, q1, _⟩ | ⟨E9, q1, q2⟩
    · cases q1
    · cases q1
      obtain ⟨rfl, hR⟩ := kx E h1 q2
      exact ⟨[], ⟨0, 9, 12, 24⟩, [], "java/lang/IndexOutOfBoundsException", 3, 1, 1, 1, rfl, (fun z hz => by cases hz), rfl, by decide, mx_hk_24, mx_hc_24, (.inl ⟨3, (mx_dd dd_L_handleKind 8 (12, .astore_n 3, 1) rfl), rfl, rfl⟩), by decide, (mx_dd dd_L_handleKind 9 (13, .iconst 1, 1) rfl), by decide, (mx_dd dd_L_handleKind 10 (14, .ireturn, 1) rfl), rfl, Or.inl ⟨1, rfl, hR⟩⟩
theorem k_L_actionOf {d : Nat} {h : mxH} (hd : 2 ≤ d) {c out : Nat} {p0 : Int32} {P : Int64 → mxH → Prop} {X : String → mxH → Prop} {R : Int32 → mxH → Prop} (hc : hpK h c = 11) (M : mx_SM mY_X11_actionOf (d - 1) [.ref c, .int p0] h (mx_KL P X))
    (kk : ∀ v h1, P v h1 → hpK h1 out = 15 ∧ hpZ h1 out = 1 ∧ R 0 (hsL h1 out 0 v)) (kx : ∀ E h1, X E h1 → E = "java/lang/IndexOutOfBoundsException" ∧ R 1 h1) : mx_SM mY_L_actionOf d [.ref c, .int p0, .ref out] h (mx_KI R fun _ _ => False) := by
  refine mx_SM_of (by decide) (Nat.le_of_ble_eq_true rfl) ?_
  show mx_SX mY_L_actionOf d 0 [(0, .ref c), (1, .int p0), (2, .ref out)] [] h _
  refine mx_aload_n (pc := 0) 2 (mx_dd dd_L_actionOf 0 (0, .aload_n 2, 1) rfl) rfl rfl ?_
  refine mx_iconst (pc := 1) (v := (0 : Int32)) (mx_dd dd_L_actionOf 1 (1, .iconst 0, 1) rfl) (by decide) ?_
  refine mx_aload_n (pc := 2) 0 (mx_dd dd_L_actionOf 2 (2, .aload_n 0, 1) rfl) rfl rfl ?_
  refine mx_iload_n (pc := 3) 1 (mx_dd dd_L_actionOf 3 (3, .iload_n 1, 1) rfl) rfl rfl ?_
  refine mx_callTry (pc := 4) (Y := mY_X11_actionOf) (d1 := d - 1) (nm := "") (As := [.int p0]) (st := [.int 0, .ref out]) mx_ml_L_26 mx_y_X11_actionOf rfl hc (by decide) rfl (by simp [Value.category]) rfl (mx_dd dd_L_actionOf 4 (4, .invokevirtual 26, 3) rfl) (by omega) (by decide) M (fun v h1 q => ?_) (fun E h1 q => ?_)
  · rcases q with ⟨w, q1, q2⟩ | ⟨E, q1, _⟩
    · cases q1
      obtain ⟨g1, g2, g3⟩ := kk w h1 q2
      refine mx_last (pc := 7) g1 (by rw [g2]; exact vp_in_nI (n := 0) (by omega) (by omega)) (mx_dd dd_L_actionOf 5 (7, .lastore, 1) rfl) ?_
      refine mx_goto (pc := 8) 14 (mx_dd dd_L_actionOf 6 (8, .goto 6, 3) rfl) rfl ?_
      refine mx_iconst (pc := 14) (v := (0 : Int32)) (mx_dd dd_L_actionOf 10 (14, .iconst 0, 1) rfl) (by decide) ?_
      exact mx_ireturn (pc := 15) (mx_dd dd_L_actionOf 11 (15, .ireturn, 1) rfl) rfl rfl (Or.inl ⟨0, rfl, g3⟩)
    · cases q1
  · rcases q with ⟨w, q1, _⟩ | ⟨E9, q1, q2⟩
    · cases q1
    · cases q1
      obtain ⟨rfl, hR⟩ := kx E h1 q2
      exact ⟨[], ⟨0, 8, 11, 24⟩, [], "java/lang/IndexOutOfBoundsException", 3, 1, 1, 1, rfl, (fun z hz => by cases hz), rfl, by decide, mx_hk_24, mx_hc_24, (.inl ⟨3, (mx_dd dd_L_actionOf 7 (11, .astore_n 3, 1) rfl), rfl, rfl⟩), by decide, (mx_dd dd_L_actionOf 8 (12, .iconst 1, 1) rfl), by decide, (mx_dd dd_L_actionOf 9 (13, .ireturn, 1) rfl), rfl, Or.inl ⟨1, rfl, hR⟩⟩
theorem k_L_lineCount {d : Nat} {h : mxH} (hd : 2 ≤ d) {c out : Nat} {p0 : Int32} {P : Int32 → mxH → Prop} {X : String → mxH → Prop} {R : Int32 → mxH → Prop} (hc : hpK h c = 11) (M : mx_SM mY_X11_lineCount (d - 1) [.ref c, .int p0] h (mx_KI P X))
    (kk : ∀ v h1, P v h1 → hpK h1 out = 15 ∧ hpZ h1 out = 1 ∧ R 0 (hsL h1 out 0 v.toInt64)) (kx : ∀ E h1, X E h1 → E = "java/lang/IndexOutOfBoundsException" ∧ R 1 h1) : mx_SM mY_L_lineCount d [.ref c, .int p0, .ref out] h (mx_KI R fun _ _ => False) := by
  refine mx_SM_of (by decide) (Nat.le_of_ble_eq_true rfl) ?_
  show mx_SX mY_L_lineCount d 0 [(0, .ref c), (1, .int p0), (2, .ref out)] [] h _
  refine mx_aload_n (pc := 0) 2 (mx_dd dd_L_lineCount 0 (0, .aload_n 2, 1) rfl) rfl rfl ?_
  refine mx_iconst (pc := 1) (v := (0 : Int32)) (mx_dd dd_L_lineCount 1 (1, .iconst 0, 1) rfl) (by decide) ?_
  refine mx_aload_n (pc := 2) 0 (mx_dd dd_L_lineCount 2 (2, .aload_n 0, 1) rfl) rfl rfl ?_
  refine mx_iload_n (pc := 3) 1 (mx_dd dd_L_lineCount 3 (3, .iload_n 1, 1) rfl) rfl rfl ?_
  refine mx_callTry (pc := 4) (Y := mY_X11_lineCount) (d1 := d - 1) (nm := "") (As := [.int p0]) (st := [.int 0, .ref out]) mx_ml_L_30 mx_y_X11_lineCount rfl hc (by decide) rfl (by simp [Value.category]) rfl (mx_dd dd_L_lineCount 4 (4, .invokevirtual 30, 3) rfl) (by omega) (by decide) M (fun v h1 q => ?_) (fun E h1 q => ?_)
  · rcases q with ⟨w, q1, q2⟩ | ⟨E, q1, _⟩
    · cases q1
      obtain ⟨g1, g2, g3⟩ := kk w h1 q2
      refine mx_i2l (pc := 7) (mx_dd dd_L_lineCount 5 (7, .i2l, 1) rfl) ?_
      refine mx_last (pc := 8) g1 (by rw [g2]; exact vp_in_nI (n := 0) (by omega) (by omega)) (mx_dd dd_L_lineCount 6 (8, .lastore, 1) rfl) ?_
      refine mx_goto (pc := 9) 15 (mx_dd dd_L_lineCount 7 (9, .goto 6, 3) rfl) rfl ?_
      refine mx_iconst (pc := 15) (v := (0 : Int32)) (mx_dd dd_L_lineCount 11 (15, .iconst 0, 1) rfl) (by decide) ?_
      exact mx_ireturn (pc := 16) (mx_dd dd_L_lineCount 12 (16, .ireturn, 1) rfl) rfl rfl (Or.inl ⟨0, rfl, g3⟩)
    · cases q1
  · rcases q with ⟨w, q1, _⟩ | ⟨E9, q1, q2⟩
    · cases q1
    · cases q1
      obtain ⟨rfl, hR⟩ := kx E h1 q2
      exact ⟨[], ⟨0, 9, 12, 24⟩, [], "java/lang/IndexOutOfBoundsException", 3, 1, 1, 1, rfl, (fun z hz => by cases hz), rfl, by decide, mx_hk_24, mx_hc_24, (.inl ⟨3, (mx_dd dd_L_lineCount 8 (12, .astore_n 3, 1) rfl), rfl, rfl⟩), by decide, (mx_dd dd_L_lineCount 9 (13, .iconst 1, 1) rfl), by decide, (mx_dd dd_L_lineCount 10 (14, .ireturn, 1) rfl), rfl, Or.inl ⟨1, rfl, hR⟩⟩
theorem k_L_traceField {d : Nat} {h : mxH} (hd : 2 ≤ d) {c out : Nat} {p0 p1 : Int32} {P : Int32 → mxH → Prop} {X : String → mxH → Prop} {R : Int32 → mxH → Prop} (hc : hpK h c = 11) (M : mx_SM mY_X11_traceField (d - 1) [.ref c, .int p0, .int p1] h (mx_KI P X))
    (kk : ∀ v h1, P v h1 → hpK h1 out = 15 ∧ hpZ h1 out = 1 ∧ R 0 (hsL h1 out 0 v.toInt64)) (kx : ∀ E h1, X E h1 → (E = "java/lang/IndexOutOfBoundsException" ∧ R 1 h1) ∨ (E = "java/lang/IllegalArgumentException" ∧ R 2 h1)) : mx_SM mY_L_traceField d [.ref c, .int p0, .int p1, .ref out] h (mx_KI R fun _ _ => False) := by
  refine mx_SM_of (by decide) (Nat.le_of_ble_eq_true rfl) ?_
  show mx_SX mY_L_traceField d 0 [(0, .ref c), (1, .int p0), (2, .int p1), (3, .ref out)] [] h _
  refine mx_aload_n (pc := 0) 3 (mx_dd dd_L_traceField 0 (0, .aload_n 3, 1) rfl) rfl rfl ?_
  refine mx_iconst (pc := 1) (v := (0 : Int32)) (mx_dd dd_L_traceField 1 (1, .iconst 0, 1) rfl) (by decide) ?_
  refine mx_aload_n (pc := 2) 0 (mx_dd dd_L_traceField 2 (2, .aload_n 0, 1) rfl) rfl rfl ?_
  refine mx_iload_n (pc := 3) 1 (mx_dd dd_L_traceField 3 (3, .iload_n 1, 1) rfl) rfl rfl ?_
  refine mx_iload_n (pc := 4) 2 (mx_dd dd_L_traceField 4 (4, .iload_n 2, 1) rfl) rfl rfl ?_
  refine mx_callTry (pc := 5) (Y := mY_X11_traceField) (d1 := d - 1) (nm := "") (As := [.int p0, .int p1]) (st := [.int 0, .ref out]) mx_ml_L_33 mx_y_X11_traceField rfl hc (by decide) rfl (by simp [Value.category]) rfl (mx_dd dd_L_traceField 5 (5, .invokevirtual 33, 3) rfl) (by omega) (by decide) M (fun v h1 q => ?_) (fun E h1 q => ?_)
  · rcases q with ⟨w, q1, q2⟩ | ⟨E, q1, _⟩
    · cases q1
      obtain ⟨g1, g2, g3⟩ := kk w h1 q2
      refine mx_i2l (pc := 8) (mx_dd dd_L_traceField 6 (8, .i2l, 1) rfl) ?_
      refine mx_last (pc := 9) g1 (by rw [g2]; exact vp_in_nI (n := 0) (by omega) (by omega)) (mx_dd dd_L_traceField 7 (9, .lastore, 1) rfl) ?_
      refine mx_goto (pc := 10) 21 (mx_dd dd_L_traceField 8 (10, .goto 11, 3) rfl) rfl ?_
      refine mx_iconst (pc := 21) (v := (0 : Int32)) (mx_dd dd_L_traceField 15 (21, .iconst 0, 1) rfl) (by decide) ?_
      exact mx_ireturn (pc := 22) (mx_dd dd_L_traceField 16 (22, .ireturn, 1) rfl) rfl rfl (Or.inl ⟨0, rfl, g3⟩)
    · cases q1
  · rcases q with ⟨w, q1, _⟩ | ⟨E9, q1, q2⟩
    · cases q1
    · cases q1
      rcases kx E h1 q2 with ⟨rfl, hR⟩ | ⟨rfl, hR⟩
      · exact ⟨[], ⟨0, 10, 13, 24⟩, [⟨0, 10, 17, 13⟩], "java/lang/IndexOutOfBoundsException", 4, 2, 1, 1, rfl, (fun z hz => by cases hz), rfl, by decide, mx_hk_24, mx_hc_24, (.inr ⟨(mx_dd dd_L_traceField 9 (13, .astore 4, 2) rfl), rfl⟩), by decide, (mx_dd dd_L_traceField 10 (15, .iconst 1, 1) rfl), by decide, (mx_dd dd_L_traceField 11 (16, .ireturn, 1) rfl), rfl, Or.inl ⟨1, rfl, hR⟩⟩
      · exact ⟨[⟨0, 10, 13, 24⟩], ⟨0, 10, 17, 13⟩, [], "java/lang/IllegalArgumentException", 4, 2, 2, 2, rfl, (fun z hz => by rcases List.mem_singleton.mp hz with rfl; exact Or.inr ⟨by decide, mx_hk_24, rfl⟩), rfl, by decide, mx_hk_13, mx_hc_13, (.inr ⟨(mx_dd dd_L_traceField 12 (17, .astore 4, 2) rfl), rfl⟩), by decide, (mx_dd dd_L_traceField 13 (19, .iconst 2, 1) rfl), by decide, (mx_dd dd_L_traceField 14 (20, .ireturn, 1) rfl), rfl, Or.inl ⟨2, rfl, hR⟩⟩
theorem k_L_formatLine {d : Nat} {h : mxH} (hd : 2 ≤ d) {c out : Nat} {p0 p1 : Int32} {P : Int32 → mxH → Prop} {X : String → mxH → Prop} {R : Int32 → mxH → Prop} (hc : hpK h c = 11) (M : mx_SM mY_X11_formatLine (d - 1) [.ref c, .int p0, .int p1] h (mx_KI P X))
    (kk : ∀ v h1, P v h1 → hpK h1 out = 15 ∧ hpZ h1 out = 1 ∧ R 0 (hsL h1 out 0 v.toInt64)) (kx : ∀ E h1, X E h1 → E = "java/lang/IndexOutOfBoundsException" ∧ R 1 h1) : mx_SM mY_L_formatLine d [.ref c, .int p0, .int p1, .ref out] h (mx_KI R fun _ _ => False) := by
  refine mx_SM_of (by decide) (Nat.le_of_ble_eq_true rfl) ?_
  show mx_SX mY_L_formatLine d 0 [(0, .ref c), (1, .int p0), (2, .int p1), (3, .ref out)] [] h _
  refine mx_aload_n (pc := 0) 3 (mx_dd dd_L_formatLine 0 (0, .aload_n 3, 1) rfl) rfl rfl ?_
  refine mx_iconst (pc := 1) (v := (0 : Int32)) (mx_dd dd_L_formatLine 1 (1, .iconst 0, 1) rfl) (by decide) ?_
  refine mx_aload_n (pc := 2) 0 (mx_dd dd_L_formatLine 2 (2, .aload_n 0, 1) rfl) rfl rfl ?_
  refine mx_iload_n (pc := 3) 1 (mx_dd dd_L_formatLine 3 (3, .iload_n 1, 1) rfl) rfl rfl ?_
  refine mx_iload_n (pc := 4) 2 (mx_dd dd_L_formatLine 4 (4, .iload_n 2, 1) rfl) rfl rfl ?_
  refine mx_callTry (pc := 5) (Y := mY_X11_formatLine) (d1 := d - 1) (nm := "") (As := [.int p0, .int p1]) (st := [.int 0, .ref out]) mx_ml_L_37 mx_y_X11_formatLine rfl hc (by decide) rfl (by simp [Value.category]) rfl (mx_dd dd_L_formatLine 5 (5, .invokevirtual 37, 3) rfl) (by omega) (by decide) M (fun v h1 q => ?_) (fun E h1 q => ?_)
  · rcases q with ⟨w, q1, q2⟩ | ⟨E, q1, _⟩
    · cases q1
      obtain ⟨g1, g2, g3⟩ := kk w h1 q2
      refine mx_i2l (pc := 8) (mx_dd dd_L_formatLine 6 (8, .i2l, 1) rfl) ?_
      refine mx_last (pc := 9) g1 (by rw [g2]; exact vp_in_nI (n := 0) (by omega) (by omega)) (mx_dd dd_L_formatLine 7 (9, .lastore, 1) rfl) ?_
      refine mx_goto (pc := 10) 17 (mx_dd dd_L_formatLine 8 (10, .goto 7, 3) rfl) rfl ?_
      refine mx_iconst (pc := 17) (v := (0 : Int32)) (mx_dd dd_L_formatLine 12 (17, .iconst 0, 1) rfl) (by decide) ?_
      exact mx_ireturn (pc := 18) (mx_dd dd_L_formatLine 13 (18, .ireturn, 1) rfl) rfl rfl (Or.inl ⟨0, rfl, g3⟩)
    · cases q1
  · rcases q with ⟨w, q1, _⟩ | ⟨E9, q1, q2⟩
    · cases q1
    · cases q1
      obtain ⟨rfl, hR⟩ := kx E h1 q2
      exact ⟨[], ⟨0, 10, 13, 24⟩, [], "java/lang/IndexOutOfBoundsException", 4, 2, 1, 1, rfl, (fun z hz => by cases hz), rfl, by decide, mx_hk_24, mx_hc_24, (.inr ⟨(mx_dd dd_L_formatLine 9 (13, .astore 4, 2) rfl), rfl⟩), by decide, (mx_dd dd_L_formatLine 10 (15, .iconst 1, 1) rfl), by decide, (mx_dd dd_L_formatLine 11 (16, .ireturn, 1) rfl), rfl, Or.inl ⟨1, rfl, hR⟩⟩
theorem k_L_formatOutput {d : Nat} {h : mxH} (hd : 2 ≤ d) {c out : Nat} {p0 : Int32} {P : Int32 → mxH → Prop} {X : String → mxH → Prop} {R : Int32 → mxH → Prop} (hc : hpK h c = 11) (M : mx_SM mY_X11_formatOutput (d - 1) [.ref c, .int p0] h (mx_KI P X))
    (kk : ∀ v h1, P v h1 → hpK h1 out = 15 ∧ hpZ h1 out = 1 ∧ R 0 (hsL h1 out 0 v.toInt64)) (kx : ∀ E h1, X E h1 → E = "java/lang/IndexOutOfBoundsException" ∧ R 1 h1) : mx_SM mY_L_formatOutput d [.ref c, .int p0, .ref out] h (mx_KI R fun _ _ => False) := by
  refine mx_SM_of (by decide) (Nat.le_of_ble_eq_true rfl) ?_
  show mx_SX mY_L_formatOutput d 0 [(0, .ref c), (1, .int p0), (2, .ref out)] [] h _
  refine mx_aload_n (pc := 0) 2 (mx_dd dd_L_formatOutput 0 (0, .aload_n 2, 1) rfl) rfl rfl ?_
  refine mx_iconst (pc := 1) (v := (0 : Int32)) (mx_dd dd_L_formatOutput 1 (1, .iconst 0, 1) rfl) (by decide) ?_
  refine mx_aload_n (pc := 2) 0 (mx_dd dd_L_formatOutput 2 (2, .aload_n 0, 1) rfl) rfl rfl ?_
  refine mx_iload_n (pc := 3) 1 (mx_dd dd_L_formatOutput 3 (3, .iload_n 1, 1) rfl) rfl rfl ?_
  refine mx_callTry (pc := 4) (Y := mY_X11_formatOutput) (d1 := d - 1) (nm := "") (As := [.int p0]) (st := [.int 0, .ref out]) mx_ml_L_40 mx_y_X11_formatOutput rfl hc (by decide) rfl (by simp [Value.category]) rfl (mx_dd dd_L_formatOutput 4 (4, .invokevirtual 40, 3) rfl) (by omega) (by decide) M (fun v h1 q => ?_) (fun E h1 q => ?_)
  · rcases q with ⟨w, q1, q2⟩ | ⟨E, q1, _⟩
    · cases q1
      obtain ⟨g1, g2, g3⟩ := kk w h1 q2
      refine mx_i2l (pc := 7) (mx_dd dd_L_formatOutput 5 (7, .i2l, 1) rfl) ?_
      refine mx_last (pc := 8) g1 (by rw [g2]; exact vp_in_nI (n := 0) (by omega) (by omega)) (mx_dd dd_L_formatOutput 6 (8, .lastore, 1) rfl) ?_
      refine mx_goto (pc := 9) 15 (mx_dd dd_L_formatOutput 7 (9, .goto 6, 3) rfl) rfl ?_
      refine mx_iconst (pc := 15) (v := (0 : Int32)) (mx_dd dd_L_formatOutput 11 (15, .iconst 0, 1) rfl) (by decide) ?_
      exact mx_ireturn (pc := 16) (mx_dd dd_L_formatOutput 12 (16, .ireturn, 1) rfl) rfl rfl (Or.inl ⟨0, rfl, g3⟩)
    · cases q1
  · rcases q with ⟨w, q1, _⟩ | ⟨E9, q1, q2⟩
    · cases q1
    · cases q1
      obtain ⟨rfl, hR⟩ := kx E h1 q2
      exact ⟨[], ⟨0, 9, 12, 24⟩, [], "java/lang/IndexOutOfBoundsException", 3, 1, 1, 1, rfl, (fun z hz => by cases hz), rfl, by decide, mx_hk_24, mx_hc_24, (.inl ⟨3, (mx_dd dd_L_formatOutput 8 (12, .astore_n 3, 1) rfl), rfl, rfl⟩), by decide, (mx_dd dd_L_formatOutput 9 (13, .iconst 1, 1) rfl), by decide, (mx_dd dd_L_formatOutput 10 (14, .ireturn, 1) rfl), rfl, Or.inl ⟨1, rfl, hR⟩⟩
theorem k_L_formatName {d : Nat} {h : mxH} (hd : 2 ≤ d) {c out : Nat} {p0 : Int32} {P : Int32 → mxH → Prop} {X : String → mxH → Prop} {R : Int32 → mxH → Prop} (hc : hpK h c = 11) (M : mx_SM mY_X11_formatName (d - 1) [.ref c, .int p0] h (mx_KI P X))
    (kk : ∀ v h1, P v h1 → hpK h1 out = 15 ∧ hpZ h1 out = 1 ∧ R 0 (hsL h1 out 0 v.toInt64)) (kx : ∀ E h1, X E h1 → E = "java/lang/IndexOutOfBoundsException" ∧ R 1 h1) : mx_SM mY_L_formatName d [.ref c, .int p0, .ref out] h (mx_KI R fun _ _ => False) := by
  refine mx_SM_of (by decide) (Nat.le_of_ble_eq_true rfl) ?_
  show mx_SX mY_L_formatName d 0 [(0, .ref c), (1, .int p0), (2, .ref out)] [] h _
  refine mx_aload_n (pc := 0) 2 (mx_dd dd_L_formatName 0 (0, .aload_n 2, 1) rfl) rfl rfl ?_
  refine mx_iconst (pc := 1) (v := (0 : Int32)) (mx_dd dd_L_formatName 1 (1, .iconst 0, 1) rfl) (by decide) ?_
  refine mx_aload_n (pc := 2) 0 (mx_dd dd_L_formatName 2 (2, .aload_n 0, 1) rfl) rfl rfl ?_
  refine mx_iload_n (pc := 3) 1 (mx_dd dd_L_formatName 3 (3, .iload_n 1, 1) rfl) rfl rfl ?_
  refine mx_callTry (pc := 4) (Y := mY_X11_formatName) (d1 := d - 1) (nm := "") (As := [.int p0]) (st := [.int 0, .ref out]) mx_ml_L_43 mx_y_X11_formatName rfl hc (by decide) rfl (by simp [Value.category]) rfl (mx_dd dd_L_formatName 4 (4, .invokevirtual 43, 3) rfl) (by omega) (by decide) M (fun v h1 q => ?_) (fun E h1 q => ?_)
  · rcases q with ⟨w, q1, q2⟩ | ⟨E, q1, _⟩
    · cases q1
      obtain ⟨g1, g2, g3⟩ := kk w h1 q2
      refine mx_i2l (pc := 7) (mx_dd dd_L_formatName 5 (7, .i2l, 1) rfl) ?_
      refine mx_last (pc := 8) g1 (by rw [g2]; exact vp_in_nI (n := 0) (by omega) (by omega)) (mx_dd dd_L_formatName 6 (8, .lastore, 1) rfl) ?_
      refine mx_goto (pc := 9) 15 (mx_dd dd_L_formatName 7 (9, .goto 6, 3) rfl) rfl ?_
      refine mx_iconst (pc := 15) (v := (0 : Int32)) (mx_dd dd_L_formatName 11 (15, .iconst 0, 1) rfl) (by decide) ?_
      exact mx_ireturn (pc := 16) (mx_dd dd_L_formatName 12 (16, .ireturn, 1) rfl) rfl rfl (Or.inl ⟨0, rfl, g3⟩)
    · cases q1
  · rcases q with ⟨w, q1, _⟩ | ⟨E9, q1, q2⟩
    · cases q1
    · cases q1
      obtain ⟨rfl, hR⟩ := kx E h1 q2
      exact ⟨[], ⟨0, 9, 12, 24⟩, [], "java/lang/IndexOutOfBoundsException", 3, 1, 1, 1, rfl, (fun z hz => by cases hz), rfl, by decide, mx_hk_24, mx_hc_24, (.inl ⟨3, (mx_dd dd_L_formatName 8 (12, .astore_n 3, 1) rfl), rfl, rfl⟩), by decide, (mx_dd dd_L_formatName 9 (13, .iconst 1, 1) rfl), by decide, (mx_dd dd_L_formatName 10 (14, .ireturn, 1) rfl), rfl, Or.inl ⟨1, rfl, hR⟩⟩
