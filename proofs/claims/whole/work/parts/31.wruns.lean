abbrev rmX0_clear : Room := { frames := 0, cells := 0, slots := 0, locals := 0 }
def wp_X0_clear (fu : Nat) (v_size : Int32) (Q : Int32 → Prop) : Prop := Q (0 : Int32)
set_option maxHeartbeats 4000000 in
set_option maxRecDepth 100000 in
theorem c_X0_clear (l : Launch) (D : va_G) (cI cJ cZ cW : ClassId) (o o_kinds o_amounts o_gone : Nat) (v_first : Int32) (v_size : Int32) (fu : Nat) (Q : Int32 → Prop) (h : wp_X0_clear fu v_size Q) : CtV l yX0_clear wkX0_clear rmX0_clear D (tys4 cI cJ cZ cW) [.ref o] [(o, .inr (0, [.ref o_kinds, .ref o_amounts, .ref o_gone, .int v_first, .int v_size]))] (fun (u : Int32) => Q u) (fun (u : Int32) => [(o, .inr (0, [.ref o_kinds, .ref o_amounts, .ref o_gone, .int v_first, .int u]))]) := by
  refine CtV.of (S := Int32) (y := yX0_clear) (Tc := wkX0_clear) (rm := rmX0_clear) (D := D) (tys := tys4 cI cJ cZ cW) (av := [.ref o]) (wc := [(o, .inr (0, [.ref o_kinds, .ref o_amounts, .ref o_gone, .int v_first, .int v_size]))]) (post := (fun (u : Int32) => Q u)) (w1 := (fun (u : Int32) => [(o, .inr (0, [.ref o_kinds, .ref o_amounts, .ref o_gone, .int v_first, .int u]))])) (cc := cX0_clear) (maxL := 1) RX0 rfl (by decide +kernel) rfl rfl [(0, .ref o)] rfl ?_
  intro p e s m args below meth c A Qm C hret
  unfold wp_X0_clear at h
  refine g_aload_n C 0 0 o dX0_clear_0 rfl rfl ?_
  refine g_iconst C (0 : Int32) dX0_clear_1 rfl ?_
  refine g_put C 0 ix_0 0 _ rfl rfl 4 (by decide) wm_74 rfl tyX0 tyX0_ok nmX0 rfl rfl rfl (Nat.le_of_ble_eq_true rfl) dX0_clear_2 [(o, .inr (0, [.ref o_kinds, .ref o_amounts, .ref o_gone, .int v_first, .int (0 : Int32)]))] rfl ?_
  exact hret (0 : Int32) _ _ _ dX0_clear_5 h rfl
abbrev rmX0_note : Room := { frames := 0, cells := 0, slots := 0, locals := 0 }
def wX0_note_32 (fu : Nat) (x1 : Int32) (x2 : Int32) (Q : Int32 → Int32 → Int32 → (Nat → Int32) → (Nat → Int32) → Prop) (v_first : Int32) (v_size : Int32) (v_amounts : (Nat → Int32)) (v_kinds : (Nat → Int32)) : Prop := (∀ y2 : Int32, y2 = (irm (v_first + v_size) (14 : Int32)) → (vp_in y2 14 ∧ (vp_in y2 14 ∧ Q y2 v_first (v_size + (1 : Int32)) (upd v_amounts (ix y2) x2) (upd v_kinds (ix y2) x1))))
def wp_X0_note (fu : Nat) (x1 : Int32) (x2 : Int32) (v_first : Int32) (v_size : Int32) (v_amounts : (Nat → Int32)) (v_kinds : (Nat → Int32)) (Q : Int32 → Int32 → Int32 → (Nat → Int32) → (Nat → Int32) → Prop) : Prop := (if v_size = (14 : Int32) then wX0_note_32 fu x1 x2 Q (irm (v_first + (1 : Int32)) (14 : Int32)) (v_size - (1 : Int32)) v_amounts v_kinds else wX0_note_32 fu x1 x2 Q v_first v_size v_amounts v_kinds)
set_option maxHeartbeats 4000000 in
set_option maxRecDepth 100000 in
theorem c_X0_note (l : Launch) (D : va_G) (cI cJ cZ cW : ClassId) (o o_kinds o_amounts o_gone : Nat) (v_first : Int32) (v_size : Int32) (v_amounts : (Nat → Int32)) (v_kinds : (Nat → Int32)) (x1 : Int32) (x2 : Int32) (fu : Nat) (Q : Int32 → Int32 → Int32 → (Nat → Int32) → (Nat → Int32) → Prop) (h : wp_X0_note fu x1 x2 v_first v_size v_amounts v_kinds Q) : CtI l yX0_note wkX0_note rmX0_note D (tys4 cI cJ cZ cW) [.ref o, .int x1, .int x2] [(o, .inr (0, [.ref o_kinds, .ref o_amounts, .ref o_gone, .int v_first, .int v_size])), (o_amounts, .inl (cI, 14, .inl v_amounts)), (o_kinds, .inl (cI, 14, .inl v_kinds))] (fun (r : Int32) (u : Int32 × Int32 × (Nat → Int32) × (Nat → Int32)) => Q r u.1 u.2.1 u.2.2.1 u.2.2.2) (fun (u : Int32 × Int32 × (Nat → Int32) × (Nat → Int32)) => [(o, .inr (0, [.ref o_kinds, .ref o_amounts, .ref o_gone, .int u.1, .int u.2.1])), (o_amounts, .inl (cI, 14, .inl u.2.2.1)), (o_kinds, .inl (cI, 14, .inl u.2.2.2))]) := by
  refine CtI.of (S := Int32 × Int32 × (Nat → Int32) × (Nat → Int32)) (y := yX0_note) (Tc := wkX0_note) (rm := rmX0_note) (D := D) (tys := tys4 cI cJ cZ cW) (av := [.ref o, .int x1, .int x2]) (wc := [(o, .inr (0, [.ref o_kinds, .ref o_amounts, .ref o_gone, .int v_first, .int v_size])), (o_amounts, .inl (cI, 14, .inl v_amounts)), (o_kinds, .inl (cI, 14, .inl v_kinds))]) (post := (fun (r : Int32) (u : Int32 × Int32 × (Nat → Int32) × (Nat → Int32)) => Q r u.1 u.2.1 u.2.2.1 u.2.2.2)) (w1 := (fun (u : Int32 × Int32 × (Nat → Int32) × (Nat → Int32)) => [(o, .inr (0, [.ref o_kinds, .ref o_amounts, .ref o_gone, .int u.1, .int u.2.1])), (o_amounts, .inl (cI, 14, .inl u.2.2.1)), (o_kinds, .inl (cI, 14, .inl u.2.2.2))])) (cc := cX0_note) (maxL := 4) RX0 rfl (by decide +kernel) rfl rfl [(0, .ref o), (1, .int x1), (2, .int x2)] rfl ?_
  intro p e s m args below meth c A Qm C hret
  have H32 : ∀ (v_first : Int32) (v_size : Int32) (v_amounts : (Nat → Int32)) (v_kinds : (Nat → Int32)), wX0_note_32 fu x1 x2 Q v_first v_size v_amounts v_kinds → G p l e rmX0_note s m args below meth c D A 4 0 0 Qm [(o, .inr (0, [.ref o_kinds, .ref o_amounts, .ref o_gone, .int v_first, .int v_size])), (o_amounts, .inl (cI, 14, .inl v_amounts)), (o_kinds, .inl (cI, 14, .inl v_kinds))] [(0, .ref o), (1, .int x1), (2, .int x2)] 32 [] := by
    intro v_first v_size v_amounts v_kinds h
    unfold wX0_note_32 at h
    refine g_aload_n C 0 0 o dX0_note_32 rfl rfl ?_
    refine g_get C 0 ix_0 0 _ rfl rfl 3 (by decide) wm_73 rfl (.int v_first) rfl dX0_note_33 ?_
    refine g_aload_n C 0 0 o dX0_note_36 rfl rfl ?_
    refine g_get C 0 ix_0 0 _ rfl rfl 4 (by decide) wm_74 rfl (.int v_size) rfl dX0_note_37 ?_
    refine g_iadd C dX0_note_40 ?_
    refine g_bipush C (14 : Int32) dX0_note_41 rfl ?_
    refine g_irem C (by decide) dX0_note_43 ?_
    refine g_topi (fun y2 ey2 => ?_)
    have h := h y2 ey2
    refine g_istore_n C [(3, .int y2), (0, .ref o), (1, .int x1), (2, .int x2)] dX0_note_44 rfl (by decide) rfl ?_
    refine g_aload_n C 0 1 o dX0_note_45 rfl rfl ?_
    refine g_get C 0 ix_0 0 _ rfl rfl 0 (by decide) wm_69 rfl (.ref o_kinds) rfl dX0_note_46 ?_
    refine g_iload_n C 3 0 y2 dX0_note_49 rfl rfl ?_
    refine g_iload_n C 1 2 x1 dX0_note_50 rfl rfl ?_
    obtain ⟨hi3, h⟩ := h
    refine g_iast C 2 0 cI 14 v_kinds rfl rfl hi3 dX0_note_51 [(o, .inr (0, [.ref o_kinds, .ref o_amounts, .ref o_gone, .int v_first, .int v_size])), (o_amounts, .inl (cI, 14, .inl v_amounts)), (o_kinds, .inl (cI, 14, .inl (upd v_kinds (ix y2) x1)))] rfl ?_
    refine g_aload_n C 0 1 o dX0_note_52 rfl rfl ?_
    refine g_get C 0 ix_0 0 _ rfl rfl 1 (by decide) wm_70 rfl (.ref o_amounts) rfl dX0_note_53 ?_
    refine g_iload_n C 3 0 y2 dX0_note_56 rfl rfl ?_
    refine g_iload_n C 2 3 x2 dX0_note_57 rfl rfl ?_
    obtain ⟨hi4, h⟩ := h
    refine g_iast C 1 0 cI 14 v_amounts rfl rfl hi4 dX0_note_58 [(o, .inr (0, [.ref o_kinds, .ref o_amounts, .ref o_gone, .int v_first, .int v_size])), (o_amounts, .inl (cI, 14, .inl (upd v_amounts (ix y2) x2))), (o_kinds, .inl (cI, 14, .inl (upd v_kinds (ix y2) x1)))] rfl ?_
    refine g_aload_n C 0 1 o dX0_note_59 rfl rfl ?_
    refine g_dup C dX0_note_60 rfl ?_
    refine g_get C 0 ix_0 0 _ rfl rfl 4 (by decide) wm_74 rfl (.int v_size) rfl dX0_note_61 ?_
    refine g_iconst C (1 : Int32) dX0_note_64 rfl ?_
    refine g_iadd C dX0_note_65 ?_
    refine g_put C 0 ix_0 0 _ rfl rfl 4 (by decide) wm_74 rfl tyX0 tyX0_ok nmX0 rfl rfl rfl (Nat.le_of_ble_eq_true rfl) dX0_note_66 [(o, .inr (0, [.ref o_kinds, .ref o_amounts, .ref o_gone, .int v_first, .int (v_size + (1 : Int32))])), (o_amounts, .inl (cI, 14, .inl (upd v_amounts (ix y2) x2))), (o_kinds, .inl (cI, 14, .inl (upd v_kinds (ix y2) x1)))] rfl ?_
    refine g_iload_n C 3 0 y2 dX0_note_69 rfl rfl ?_
    exact hret _ (v_first, (v_size + (1 : Int32)), (upd v_amounts (ix y2) x2), (upd v_kinds (ix y2) x1)) _ _ _ dX0_note_70 h rfl
  unfold wp_X0_note at h
  refine g_aload_n C 0 0 o dX0_note_0 rfl rfl ?_
  refine g_get C 0 ix_0 0 _ rfl rfl 4 (by decide) wm_74 rfl (.int v_size) rfl dX0_note_1 ?_
  refine g_bipush C (14 : Int32) dX0_note_4 rfl ?_
  refine g_icmp_ne C 32 dX0_note_6 (by decide) (fun c1 => ?_) (fun c1 => ?_)
  · have h := wp_f c1 h
    refine g_lv [0, 1, 2] rfl ?_
    exact H32  v_first v_size v_amounts v_kinds h
  have h := wp_t c1 h
  refine g_aload_n C 0 0 o dX0_note_9 rfl rfl ?_
  refine g_aload_n C 0 0 o dX0_note_10 rfl rfl ?_
  refine g_get C 0 ix_0 0 _ rfl rfl 3 (by decide) wm_73 rfl (.int v_first) rfl dX0_note_11 ?_
  refine g_iconst C (1 : Int32) dX0_note_14 rfl ?_
  refine g_iadd C dX0_note_15 ?_
  refine g_bipush C (14 : Int32) dX0_note_16 rfl ?_
  refine g_irem C (by decide) dX0_note_18 ?_
  refine g_put C 0 ix_0 0 _ rfl rfl 3 (by decide) wm_73 rfl tyX0 tyX0_ok nmX0 rfl rfl rfl (Nat.le_of_ble_eq_true rfl) dX0_note_19 [(o, .inr (0, [.ref o_kinds, .ref o_amounts, .ref o_gone, .int (irm (v_first + (1 : Int32)) (14 : Int32)), .int v_size])), (o_amounts, .inl (cI, 14, .inl v_amounts)), (o_kinds, .inl (cI, 14, .inl v_kinds))] rfl ?_
  refine g_aload_n C 0 0 o dX0_note_22 rfl rfl ?_
  refine g_dup C dX0_note_23 rfl ?_
  refine g_get C 0 ix_0 0 _ rfl rfl 4 (by decide) wm_74 rfl (.int v_size) rfl dX0_note_24 ?_
  refine g_iconst C (1 : Int32) dX0_note_27 rfl ?_
  refine g_isub C dX0_note_28 ?_
  refine g_put C 0 ix_0 0 _ rfl rfl 4 (by decide) wm_74 rfl tyX0 tyX0_ok nmX0 rfl rfl rfl (Nat.le_of_ble_eq_true rfl) dX0_note_29 [(o, .inr (0, [.ref o_kinds, .ref o_amounts, .ref o_gone, .int (irm (v_first + (1 : Int32)) (14 : Int32)), .int (v_size - (1 : Int32))])), (o_amounts, .inl (cI, 14, .inl v_amounts)), (o_kinds, .inl (cI, 14, .inl v_kinds))] rfl ?_
  refine g_lv [0, 1, 2] rfl ?_
  exact H32  (irm (v_first + (1 : Int32)) (14 : Int32)) (v_size - (1 : Int32)) v_amounts v_kinds h
abbrev rmX0_noteGrown : Room := { frames := 1, cells := 0, slots := 0, locals := 23 }
def wp_X0_noteGrown (fu : Nat) (x1 : Int32) (v_first : Int32) (v_size : Int32) (v_amounts : (Nat → Int32)) (v_kinds : (Nat → Int32)) (Q : Int32 → Int32 → (Nat → Int32) → (Nat → Int32) → Prop) : Prop := wp_X0_note fu (0 : Int32) x1 v_first v_size v_amounts v_kinds (fun (r5 : Int32) (z1 : Int32) (z2 : Int32) (z3 : (Nat → Int32)) (z4 : (Nat → Int32)) => Q z1 z2 z3 z4)
set_option maxHeartbeats 4000000 in
set_option maxRecDepth 100000 in
theorem c_X0_noteGrown (l : Launch) (D : va_G) (cI cJ cZ cW : ClassId) (o o_kinds o_amounts o_gone : Nat) (v_first : Int32) (v_size : Int32) (v_amounts : (Nat → Int32)) (v_kinds : (Nat → Int32)) (x1 : Int32) (fu : Nat) (Q : Int32 → Int32 → (Nat → Int32) → (Nat → Int32) → Prop) (h : wp_X0_noteGrown fu x1 v_first v_size v_amounts v_kinds Q) : CtV l yX0_noteGrown wkX0_noteGrown rmX0_noteGrown D (tys4 cI cJ cZ cW) [.ref o, .int x1] [(o, .inr (0, [.ref o_kinds, .ref o_amounts, .ref o_gone, .int v_first, .int v_size])), (o_amounts, .inl (cI, 14, .inl v_amounts)), (o_kinds, .inl (cI, 14, .inl v_kinds))] (fun (u : Int32 × Int32 × (Nat → Int32) × (Nat → Int32)) => Q u.1 u.2.1 u.2.2.1 u.2.2.2) (fun (u : Int32 × Int32 × (Nat → Int32) × (Nat → Int32)) => [(o, .inr (0, [.ref o_kinds, .ref o_amounts, .ref o_gone, .int u.1, .int u.2.1])), (o_amounts, .inl (cI, 14, .inl u.2.2.1)), (o_kinds, .inl (cI, 14, .inl u.2.2.2))]) := by
  refine CtV.of (S := Int32 × Int32 × (Nat → Int32) × (Nat → Int32)) (y := yX0_noteGrown) (Tc := wkX0_noteGrown) (rm := rmX0_noteGrown) (D := D) (tys := tys4 cI cJ cZ cW) (av := [.ref o, .int x1]) (wc := [(o, .inr (0, [.ref o_kinds, .ref o_amounts, .ref o_gone, .int v_first, .int v_size])), (o_amounts, .inl (cI, 14, .inl v_amounts)), (o_kinds, .inl (cI, 14, .inl v_kinds))]) (post := (fun (u : Int32 × Int32 × (Nat → Int32) × (Nat → Int32)) => Q u.1 u.2.1 u.2.2.1 u.2.2.2)) (w1 := (fun (u : Int32 × Int32 × (Nat → Int32) × (Nat → Int32)) => [(o, .inr (0, [.ref o_kinds, .ref o_amounts, .ref o_gone, .int u.1, .int u.2.1])), (o_amounts, .inl (cI, 14, .inl u.2.2.1)), (o_kinds, .inl (cI, 14, .inl u.2.2.2))])) (cc := cX0_noteGrown) (maxL := 2) RX0 rfl (by decide +kernel) rfl rfl [(0, .ref o), (1, .int x1)] rfl ?_
  intro p e s m args below meth c A Qm C hret
  unfold wp_X0_noteGrown at h
  refine g_aload_n C 0 0 o dX0_noteGrown_0 rfl rfl ?_
  refine g_iconst C (0 : Int32) dX0_noteGrown_1 rfl ?_
  refine g_iload_n C 1 1 x1 dX0_noteGrown_2 rfl rfl ?_
  refine g_callVi (As := [.int (0 : Int32), .int x1]) (rest := []) C (c_X0_note l D cI cJ cZ cW o o_kinds o_amounts o_gone v_first v_size v_amounts v_kinds (0 : Int32) x1 fu _ h) 2 gd_X0_29 rfl rfl rfl (by decide +kernel) ⟨Nat.le_of_ble_eq_true rfl, Nat.le_of_ble_eq_true rfl⟩ ⟨Nat.le_of_ble_eq_true rfl, Nat.le_of_ble_eq_true rfl⟩ 0 0 rfl rfl rfl rfl (Nat.le_of_ble_eq_true rfl) [0, 1, 2] [some 0, some 1, some 2] rfl rfl rfl dX0_noteGrown_3 (fun r5 u h => ?_)
  obtain ⟨z1, z2, z3, z4⟩ := u
  refine ⟨[(o, .inr (0, [.ref o_kinds, .ref o_amounts, .ref o_gone, .int z1, .int z2])), (o_amounts, .inl (cI, 14, .inl z3)), (o_kinds, .inl (cI, 14, .inl z4))], rfl, rfl, rfl, ?_⟩
  refine g_pop C dX0_noteGrown_6 rfl ?_
  exact hret (z1, z2, z3, z4) _ _ _ dX0_noteGrown_7 h rfl
abbrev rmX0_noteFlipped : Room := { frames := 1, cells := 0, slots := 0, locals := 23 }
def wp_X0_noteFlipped (fu : Nat) (x1 : Int32) (v_first : Int32) (v_size : Int32) (v_amounts : (Nat → Int32)) (v_kinds : (Nat → Int32)) (Q : Int32 → Int32 → (Nat → Int32) → (Nat → Int32) → Prop) : Prop := wp_X0_note fu (1 : Int32) x1 v_first v_size v_amounts v_kinds (fun (r5 : Int32) (z1 : Int32) (z2 : Int32) (z3 : (Nat → Int32)) (z4 : (Nat → Int32)) => Q z1 z2 z3 z4)
set_option maxHeartbeats 4000000 in
set_option maxRecDepth 100000 in
theorem c_X0_noteFlipped (l : Launch) (D : va_G) (cI cJ cZ cW : ClassId) (o o_kinds o_amounts o_gone : Nat) (v_first : Int32) (v_size : Int32) (v_amounts : (Nat → Int32)) (v_kinds : (Nat → Int32)) (x1 : Int32) (fu : Nat) (Q : Int32 → Int32 → (Nat → Int32) → (Nat → Int32) → Prop) (h : wp_X0_noteFlipped fu x1 v_first v_size v_amounts v_kinds Q) : CtV l yX0_noteFlipped wkX0_noteFlipped rmX0_noteFlipped D (tys4 cI cJ cZ cW) [.ref o, .int x1] [(o, .inr (0, [.ref o_kinds, .ref o_amounts, .ref o_gone, .int v_first, .int v_size])), (o_amounts, .inl (cI, 14, .inl v_amounts)), (o_kinds, .inl (cI, 14, .inl v_kinds))] (fun (u : Int32 × Int32 × (Nat → Int32) × (Nat → Int32)) => Q u.1 u.2.1 u.2.2.1 u.2.2.2) (fun (u : Int32 × Int32 × (Nat → Int32) × (Nat → Int32)) => [(o, .inr (0, [.ref o_kinds, .ref o_amounts, .ref o_gone, .int u.1, .int u.2.1])), (o_amounts, .inl (cI, 14, .inl u.2.2.1)), (o_kinds, .inl (cI, 14, .inl u.2.2.2))]) := by
  refine CtV.of (S := Int32 × Int32 × (Nat → Int32) × (Nat → Int32)) (y := yX0_noteFlipped) (Tc := wkX0_noteFlipped) (rm := rmX0_noteFlipped) (D := D) (tys := tys4 cI cJ cZ cW) (av := [.ref o, .int x1]) (wc := [(o, .inr (0, [.ref o_kinds, .ref o_amounts, .ref o_gone, .int v_first, .int v_size])), (o_amounts, .inl (cI, 14, .inl v_amounts)), (o_kinds, .inl (cI, 14, .inl v_kinds))]) (post := (fun (u : Int32 × Int32 × (Nat → Int32) × (Nat → Int32)) => Q u.1 u.2.1 u.2.2.1 u.2.2.2)) (w1 := (fun (u : Int32 × Int32 × (Nat → Int32) × (Nat → Int32)) => [(o, .inr (0, [.ref o_kinds, .ref o_amounts, .ref o_gone, .int u.1, .int u.2.1])), (o_amounts, .inl (cI, 14, .inl u.2.2.1)), (o_kinds, .inl (cI, 14, .inl u.2.2.2))])) (cc := cX0_noteFlipped) (maxL := 2) RX0 rfl (by decide +kernel) rfl rfl [(0, .ref o), (1, .int x1)] rfl ?_
  intro p e s m args below meth c A Qm C hret
  unfold wp_X0_noteFlipped at h
  refine g_aload_n C 0 0 o dX0_noteFlipped_0 rfl rfl ?_
  refine g_iconst C (1 : Int32) dX0_noteFlipped_1 rfl ?_
  refine g_iload_n C 1 1 x1 dX0_noteFlipped_2 rfl rfl ?_
  refine g_callVi (As := [.int (1 : Int32), .int x1]) (rest := []) C (c_X0_note l D cI cJ cZ cW o o_kinds o_amounts o_gone v_first v_size v_amounts v_kinds (1 : Int32) x1 fu _ h) 2 gd_X0_29 rfl rfl rfl (by decide +kernel) ⟨Nat.le_of_ble_eq_true rfl, Nat.le_of_ble_eq_true rfl⟩ ⟨Nat.le_of_ble_eq_true rfl, Nat.le_of_ble_eq_true rfl⟩ 0 0 rfl rfl rfl rfl (Nat.le_of_ble_eq_true rfl) [0, 1, 2] [some 0, some 1, some 2] rfl rfl rfl dX0_noteFlipped_3 (fun r5 u h => ?_)
  obtain ⟨z1, z2, z3, z4⟩ := u
  refine ⟨[(o, .inr (0, [.ref o_kinds, .ref o_amounts, .ref o_gone, .int z1, .int z2])), (o_amounts, .inl (cI, 14, .inl z3)), (o_kinds, .inl (cI, 14, .inl z4))], rfl, rfl, rfl, ?_⟩
  refine g_pop C dX0_noteFlipped_6 rfl ?_
  exact hret (z1, z2, z3, z4) _ _ _ dX0_noteFlipped_7 h rfl
abbrev rmX0_noteCut : Room := { frames := 1, cells := 0, slots := 0, locals := 23 }
def wX0_noteCut_92 (fu : Nat) (v_a1_ticks : Int32) (v_a1_levels : (Nat → Int32)) (x2 : Int32) (Q : Int32 → Int32 → (Nat → Int32) → (Nat → Int64) → (Nat → Int32) → Prop) (K39 : Int32 → Int32 → Int32 → Int32 → (Nat → Int32) → (Nat → Int64) → (Nat → Int32) → Prop) (x3 : Int32) (x4 : Int32) (v_first : Int32) (v_size : Int32) (v_amounts : (Nat → Int32)) (v_gone : (Nat → Int64)) (v_kinds : (Nat → Int32)) : Prop := K39 x3 (x4 + (1 : Int32)) v_first v_size v_amounts v_gone v_kinds
def wX0_noteCut_39 (fu : Nat) (v_a1_ticks : Int32) (v_a1_levels : (Nat → Int32)) (x2 : Int32) (Q : Int32 → Int32 → (Nat → Int32) → (Nat → Int64) → (Nat → Int32) → Prop) : Nat → Int32 → Int32 → Int32 → Int32 → (Nat → Int32) → (Nat → Int64) → (Nat → Int32) → Prop
  | 0, _, _, _, _, _, _, _ => False
  | n0 + 1, x3, x4, v_first, v_size, v_amounts, v_gone, v_kinds => (if x2 ≤ x4 then Q v_first v_size v_amounts v_gone v_kinds else (if (360 : Int32) ≤ x4 then Q v_first v_size v_amounts v_gone v_kinds else wp_X8_levelAt fu v_a1_ticks v_a1_levels ((v_a1_ticks - x2) + x4) (fun (r11 : Int32) => (if r11 = (1 : Int32) then (vp_in (x3 + (x4 / (64 : Int32))) 84 ∧ (vp_in (x3 + (x4 / (64 : Int32))) 84 ∧ wX0_noteCut_92 fu v_a1_ticks v_a1_levels x2 Q (wX0_noteCut_39 fu v_a1_ticks v_a1_levels x2 Q n0) x3 x4 v_first v_size v_amounts (vp_updL v_gone (ix (x3 + (x4 / (64 : Int32)))) ((v_gone (ix (x3 + (x4 / (64 : Int32))))) ||| (lsl (1 : Int64) (irm x4 (64 : Int32))))) v_kinds)) else wX0_noteCut_92 fu v_a1_ticks v_a1_levels x2 Q (wX0_noteCut_39 fu v_a1_ticks v_a1_levels x2 Q n0) x3 x4 v_first v_size v_amounts v_gone v_kinds))))
def wX0_noteCut_13 (fu : Nat) (v_a1_ticks : Int32) (v_a1_levels : (Nat → Int32)) (x2 : Int32) (Q : Int32 → Int32 → (Nat → Int32) → (Nat → Int64) → (Nat → Int32) → Prop) : Nat → Int32 → Int32 → Int32 → Int32 → (Nat → Int32) → (Nat → Int64) → (Nat → Int32) → Prop
  | 0, _, _, _, _, _, _, _ => False
  | n0 + 1, x3, x4, v_first, v_size, v_amounts, v_gone, v_kinds => (if (6 : Int32) ≤ x4 then wX0_noteCut_39 fu v_a1_ticks v_a1_levels x2 Q fu x3 (0 : Int32) v_first v_size v_amounts v_gone v_kinds else (vp_in (x3 + x4) 84 ∧ (wX0_noteCut_13 fu v_a1_ticks v_a1_levels x2 Q n0) x3 (x4 + (1 : Int32)) v_first v_size v_amounts (vp_updL v_gone (ix (x3 + x4)) (0 : Int64)) v_kinds))
def wp_X0_noteCut (fu : Nat) (v_a1_ticks : Int32) (v_a1_levels : (Nat → Int32)) (x2 : Int32) (v_first : Int32) (v_size : Int32) (v_amounts : (Nat → Int32)) (v_gone : (Nat → Int64)) (v_kinds : (Nat → Int32)) (Q : Int32 → Int32 → (Nat → Int32) → (Nat → Int64) → (Nat → Int32) → Prop) : Prop := wp_X0_note fu (2 : Int32) x2 v_first v_size v_amounts v_kinds (fun (r5 : Int32) (z1 : Int32) (z2 : Int32) (z3 : (Nat → Int32)) (z4 : (Nat → Int32)) => (∀ y6 : Int32, y6 = ((6 : Int32) * r5) → wX0_noteCut_13 fu v_a1_ticks v_a1_levels x2 Q fu y6 (0 : Int32) z1 z2 z3 v_gone z4))
set_option maxHeartbeats 4000000 in
set_option maxRecDepth 100000 in
theorem c_X0_noteCut (l : Launch) (D : va_G) (cI cJ cZ cW : ClassId) (o o_kinds o_amounts o_gone o_a1 o_a1_levels : Nat) (v_first : Int32) (v_size : Int32) (v_amounts : (Nat → Int32)) (v_gone : (Nat → Int64)) (v_kinds : (Nat → Int32)) (v_a1_ticks : Int32) (v_a1_levels : (Nat → Int32)) (x2 : Int32) (fu : Nat) (Q : Int32 → Int32 → (Nat → Int32) → (Nat → Int64) → (Nat → Int32) → Prop) (h : wp_X0_noteCut fu v_a1_ticks v_a1_levels x2 v_first v_size v_amounts v_gone v_kinds Q) : CtV l yX0_noteCut wkX0_noteCut rmX0_noteCut D (tys4 cI cJ cZ cW) [.ref o, .ref o_a1, .int x2] [(o, .inr (0, [.ref o_kinds, .ref o_amounts, .ref o_gone, .int v_first, .int v_size])), (o_amounts, .inl (cI, 14, .inl v_amounts)), (o_gone, .inl (cJ, 84, .inr (.inl v_gone))), (o_kinds, .inl (cI, 14, .inl v_kinds)), (o_a1, .inr (8, [.ref o_a1_levels, .int v_a1_ticks])), (o_a1_levels, .inl (cI, 360, .inl v_a1_levels))] (fun (u : Int32 × Int32 × (Nat → Int32) × (Nat → Int64) × (Nat → Int32)) => Q u.1 u.2.1 u.2.2.1 u.2.2.2.1 u.2.2.2.2) (fun (u : Int32 × Int32 × (Nat → Int32) × (Nat → Int64) × (Nat → Int32)) => [(o, .inr (0, [.ref o_kinds, .ref o_amounts, .ref o_gone, .int u.1, .int u.2.1])), (o_amounts, .inl (cI, 14, .inl u.2.2.1)), (o_gone, .inl (cJ, 84, .inr (.inl u.2.2.2.1))), (o_kinds, .inl (cI, 14, .inl u.2.2.2.2)), (o_a1, .inr (8, [.ref o_a1_levels, .int v_a1_ticks])), (o_a1_levels, .inl (cI, 360, .inl v_a1_levels))]) := by
  refine CtV.of (S := Int32 × Int32 × (Nat → Int32) × (Nat → Int64) × (Nat → Int32)) (y := yX0_noteCut) (Tc := wkX0_noteCut) (rm := rmX0_noteCut) (D := D) (tys := tys4 cI cJ cZ cW) (av := [.ref o, .ref o_a1, .int x2]) (wc := [(o, .inr (0, [.ref o_kinds, .ref o_amounts, .ref o_gone, .int v_first, .int v_size])), (o_amounts, .inl (cI, 14, .inl v_amounts)), (o_gone, .inl (cJ, 84, .inr (.inl v_gone))), (o_kinds, .inl (cI, 14, .inl v_kinds)), (o_a1, .inr (8, [.ref o_a1_levels, .int v_a1_ticks])), (o_a1_levels, .inl (cI, 360, .inl v_a1_levels))]) (post := (fun (u : Int32 × Int32 × (Nat → Int32) × (Nat → Int64) × (Nat → Int32)) => Q u.1 u.2.1 u.2.2.1 u.2.2.2.1 u.2.2.2.2)) (w1 := (fun (u : Int32 × Int32 × (Nat → Int32) × (Nat → Int64) × (Nat → Int32)) => [(o, .inr (0, [.ref o_kinds, .ref o_amounts, .ref o_gone, .int u.1, .int u.2.1])), (o_amounts, .inl (cI, 14, .inl u.2.2.1)), (o_gone, .inl (cJ, 84, .inr (.inl u.2.2.2.1))), (o_kinds, .inl (cI, 14, .inl u.2.2.2.2)), (o_a1, .inr (8, [.ref o_a1_levels, .int v_a1_ticks])), (o_a1_levels, .inl (cI, 360, .inl v_a1_levels))])) (cc := cX0_noteCut) (maxL := 5) RX0 rfl (by decide +kernel) rfl rfl [(0, .ref o), (1, .ref o_a1), (2, .int x2)] rfl ?_
  intro p e s m args below meth c A Qm C hret
  have H39 : ∀ (n39 : Nat) (x3 : Int32) (x4 : Int32) (v_first : Int32) (v_size : Int32) (v_amounts : (Nat → Int32)) (v_gone : (Nat → Int64)) (v_kinds : (Nat → Int32)), wX0_noteCut_39 fu v_a1_ticks v_a1_levels x2 Q n39 x3 x4 v_first v_size v_amounts v_gone v_kinds → G p l e rmX0_noteCut s m args below meth c D A 5 0 0 Qm [(o, .inr (0, [.ref o_kinds, .ref o_amounts, .ref o_gone, .int v_first, .int v_size])), (o_amounts, .inl (cI, 14, .inl v_amounts)), (o_gone, .inl (cJ, 84, .inr (.inl v_gone))), (o_kinds, .inl (cI, 14, .inl v_kinds)), (o_a1, .inr (8, [.ref o_a1_levels, .int v_a1_ticks])), (o_a1_levels, .inl (cI, 360, .inl v_a1_levels))] [(0, .ref o), (1, .ref o_a1), (2, .int x2), (3, .int x3), (4, .int x4)] 39 [] := by
    intro n39
    induction n39 with
    | zero => intro x3 x4 v_first v_size v_amounts v_gone v_kinds h; exact False.elim h
    | succ n39 ih39 =>
      have H92 : ∀ (x3 : Int32) (x4 : Int32) (v_first : Int32) (v_size : Int32) (v_amounts : (Nat → Int32)) (v_gone : (Nat → Int64)) (v_kinds : (Nat → Int32)), wX0_noteCut_92 fu v_a1_ticks v_a1_levels x2 Q (wX0_noteCut_39 fu v_a1_ticks v_a1_levels x2 Q n39) x3 x4 v_first v_size v_amounts v_gone v_kinds → G p l e rmX0_noteCut s m args below meth c D A 5 0 0 Qm [(o, .inr (0, [.ref o_kinds, .ref o_amounts, .ref o_gone, .int v_first, .int v_size])), (o_amounts, .inl (cI, 14, .inl v_amounts)), (o_gone, .inl (cJ, 84, .inr (.inl v_gone))), (o_kinds, .inl (cI, 14, .inl v_kinds)), (o_a1, .inr (8, [.ref o_a1_levels, .int v_a1_ticks])), (o_a1_levels, .inl (cI, 360, .inl v_a1_levels))] [(0, .ref o), (1, .ref o_a1), (2, .int x2), (3, .int x3), (4, .int x4)] 92 [] := by
        intro x3 x4 v_first v_size v_amounts v_gone v_kinds h
        unfold wX0_noteCut_92 at h
        refine g_iinc C 4 x4 (x4 + (1 : Int32)) [(4, .int (x4 + (1 : Int32))), (0, .ref o), (1, .ref o_a1), (2, .int x2), (3, .int x3)] dX0_noteCut_92 rfl rfl (by decide) rfl ?_
        refine g_goto C 39 dX0_noteCut_95 (by decide) ?_
        refine g_lv [1, 2, 3, 4, 0] rfl ?_
        exact ih39  x3 (x4 + (1 : Int32)) v_first v_size v_amounts v_gone v_kinds h
      intro x3 x4 v_first v_size v_amounts v_gone v_kinds h
      unfold wX0_noteCut_39 at h
      refine g_iload C 4 4 x4 dX0_noteCut_39 rfl ?_
      refine g_iload_n C 2 2 x2 dX0_noteCut_41 rfl rfl ?_
      refine g_icmp_ge C 98 dX0_noteCut_42 (by decide) (fun c9 => ?_) (fun c9 => ?_)
      · have h := wp_t c9 h
        exact hret (v_first, v_size, v_amounts, v_gone, v_kinds) _ _ _ dX0_noteCut_98 h rfl
      have h := wp_f c9 h
      refine g_iload C 4 4 x4 dX0_noteCut_45 rfl ?_
      refine g_sipush C (360 : Int32) dX0_noteCut_47 rfl ?_
      refine g_icmp_ge C 98 dX0_noteCut_50 (by decide) (fun c10 => ?_) (fun c10 => ?_)
      · have h := wp_t c10 h
        exact hret (v_first, v_size, v_amounts, v_gone, v_kinds) _ _ _ dX0_noteCut_98 h rfl
      have h := wp_f c10 h
      refine g_aload_n C 1 1 o_a1 dX0_noteCut_53 rfl rfl ?_
      refine g_aload_n C 1 1 o_a1 dX0_noteCut_54 rfl rfl ?_
      refine g_getN C 8 ix_8 4 _ rfl rfl 1 (by decide) 3 rfl rfl (.int v_a1_ticks) rfl dX0_noteCut_55 ?_
      refine g_iload_n C 2 2 x2 dX0_noteCut_58 rfl rfl ?_
      refine g_isub C dX0_noteCut_59 ?_
      refine g_iload C 4 4 x4 dX0_noteCut_60 rfl ?_
      refine g_iadd C dX0_noteCut_62 ?_
      refine g_callVi0 (As := [.int ((v_a1_ticks - x2) + x4)]) (rest := []) C (c_X8_levelAt l D cI cJ cZ cW o_a1 o_a1_levels v_a1_ticks v_a1_levels ((v_a1_ticks - x2) + x4) fu _ h) 1 gd_X0_38 rfl rfl rfl (by decide +kernel) ⟨Nat.le_of_ble_eq_true rfl, Nat.le_of_ble_eq_true rfl⟩ ⟨Nat.le_of_ble_eq_true rfl, Nat.le_of_ble_eq_true rfl⟩ 8 4 rfl rfl rfl rfl (Nat.le_of_ble_eq_true rfl) [4, 5] rfl rfl dX0_noteCut_63 (fun r11 h => ?_)
      refine g_iconst C (1 : Int32) dX0_noteCut_66 rfl ?_
      refine g_icmp_ne C 92 dX0_noteCut_67 (by decide) (fun c12 => ?_) (fun c12 => ?_)
      · have h := wp_f c12 h
        refine g_lv [0, 1, 2, 3, 4] rfl ?_
        exact H92  x3 x4 v_first v_size v_amounts v_gone v_kinds h
      have h := wp_t c12 h
      refine g_aload_n C 0 0 o dX0_noteCut_70 rfl rfl ?_
      refine g_get C 0 ix_0 0 _ rfl rfl 2 (by decide) wm_72 rfl (.ref o_gone) rfl dX0_noteCut_71 ?_
      refine g_iload_n C 3 3 x3 dX0_noteCut_74 rfl rfl ?_
      refine g_iload C 4 4 x4 dX0_noteCut_75 rfl ?_
      refine g_bipush C (64 : Int32) dX0_noteCut_77 rfl ?_
      refine g_idiv C (by decide) dX0_noteCut_79 ?_
      refine g_iadd C dX0_noteCut_80 ?_
      refine g_dup2 C dX0_noteCut_81 rfl rfl ?_
      obtain ⟨hi13, h⟩ := h
      refine g_lald C 2 1 cJ 84 v_gone rfl rfl hi13 dX0_noteCut_82 ?_
      refine g_lconst C (1 : Int64) dX0_noteCut_83 rfl ?_
      refine g_iload C 4 4 x4 dX0_noteCut_84 rfl ?_
      refine g_bipush C (64 : Int32) dX0_noteCut_86 rfl ?_
      refine g_irem C (by decide) dX0_noteCut_88 ?_
      refine g_lshl C dX0_noteCut_89 ?_
      refine g_lor C dX0_noteCut_90 ?_
      obtain ⟨hi14, h⟩ := h
      refine g_last C 2 1 cJ 84 v_gone rfl rfl hi14 dX0_noteCut_91 [(o, .inr (0, [.ref o_kinds, .ref o_amounts, .ref o_gone, .int v_first, .int v_size])), (o_amounts, .inl (cI, 14, .inl v_amounts)), (o_gone, .inl (cJ, 84, .inr (.inl (vp_updL v_gone (ix (x3 + (x4 / (64 : Int32)))) ((v_gone (ix (x3 + (x4 / (64 : Int32))))) ||| (lsl (1 : Int64) (irm x4 (64 : Int32)))))))), (o_kinds, .inl (cI, 14, .inl v_kinds)), (o_a1, .inr (8, [.ref o_a1_levels, .int v_a1_ticks])), (o_a1_levels, .inl (cI, 360, .inl v_a1_levels))] rfl ?_
      refine g_lv [0, 1, 2, 3, 4] rfl ?_
      exact H92  x3 x4 v_first v_size v_amounts (vp_updL v_gone (ix (x3 + (x4 / (64 : Int32)))) ((v_gone (ix (x3 + (x4 / (64 : Int32))))) ||| (lsl (1 : Int64) (irm x4 (64 : Int32))))) v_kinds h
  have H13 : ∀ (n13 : Nat) (x3 : Int32) (x4 : Int32) (v_first : Int32) (v_size : Int32) (v_amounts : (Nat → Int32)) (v_gone : (Nat → Int64)) (v_kinds : (Nat → Int32)), wX0_noteCut_13 fu v_a1_ticks v_a1_levels x2 Q n13 x3 x4 v_first v_size v_amounts v_gone v_kinds → G p l e rmX0_noteCut s m args below meth c D A 5 0 0 Qm [(o, .inr (0, [.ref o_kinds, .ref o_amounts, .ref o_gone, .int v_first, .int v_size])), (o_amounts, .inl (cI, 14, .inl v_amounts)), (o_gone, .inl (cJ, 84, .inr (.inl v_gone))), (o_kinds, .inl (cI, 14, .inl v_kinds)), (o_a1, .inr (8, [.ref o_a1_levels, .int v_a1_ticks])), (o_a1_levels, .inl (cI, 360, .inl v_a1_levels))] [(0, .ref o), (1, .ref o_a1), (2, .int x2), (3, .int x3), (4, .int x4)] 13 [] := by
    intro n13
    induction n13 with
    | zero => intro x3 x4 v_first v_size v_amounts v_gone v_kinds h; exact False.elim h
    | succ n13 ih13 =>
      intro x3 x4 v_first v_size v_amounts v_gone v_kinds h
      unfold wX0_noteCut_13 at h
      refine g_iload C 4 4 x4 dX0_noteCut_13 rfl ?_
      refine g_bipush C (6 : Int32) dX0_noteCut_15 rfl ?_
      refine g_icmp_ge C 36 dX0_noteCut_17 (by decide) (fun c7 => ?_) (fun c7 => ?_)
      · have h := wp_t c7 h
        refine g_iconst C (0 : Int32) dX0_noteCut_36 rfl ?_
        refine g_istore C [(4, .int (0 : Int32)), (0, .ref o), (1, .ref o_a1), (2, .int x2), (3, .int x3)] dX0_noteCut_37 (by decide) rfl ?_
        refine g_lv [1, 2, 3, 4, 0] rfl ?_
        exact H39 fu  x3 (0 : Int32) v_first v_size v_amounts v_gone v_kinds h
      have h := wp_f c7 h
      refine g_aload_n C 0 0 o dX0_noteCut_20 rfl rfl ?_
      refine g_get C 0 ix_0 0 _ rfl rfl 2 (by decide) wm_72 rfl (.ref o_gone) rfl dX0_noteCut_21 ?_
      refine g_iload_n C 3 3 x3 dX0_noteCut_24 rfl rfl ?_
      refine g_iload C 4 4 x4 dX0_noteCut_25 rfl ?_
      refine g_iadd C dX0_noteCut_27 ?_
      refine g_lconst C (0 : Int64) dX0_noteCut_28 rfl ?_
      obtain ⟨hi8, h⟩ := h
      refine g_last C 2 1 cJ 84 v_gone rfl rfl hi8 dX0_noteCut_29 [(o, .inr (0, [.ref o_kinds, .ref o_amounts, .ref o_gone, .int v_first, .int v_size])), (o_amounts, .inl (cI, 14, .inl v_amounts)), (o_gone, .inl (cJ, 84, .inr (.inl (vp_updL v_gone (ix (x3 + x4)) (0 : Int64))))), (o_kinds, .inl (cI, 14, .inl v_kinds)), (o_a1, .inr (8, [.ref o_a1_levels, .int v_a1_ticks])), (o_a1_levels, .inl (cI, 360, .inl v_a1_levels))] rfl ?_
      refine g_iinc C 4 x4 (x4 + (1 : Int32)) [(4, .int (x4 + (1 : Int32))), (0, .ref o), (1, .ref o_a1), (2, .int x2), (3, .int x3)] dX0_noteCut_30 rfl rfl (by decide) rfl ?_
      refine g_goto C 13 dX0_noteCut_33 (by decide) ?_
      refine g_lv [1, 2, 3, 4, 0] rfl ?_
      exact ih13  x3 (x4 + (1 : Int32)) v_first v_size v_amounts (vp_updL v_gone (ix (x3 + x4)) (0 : Int64)) v_kinds h
  unfold wp_X0_noteCut at h
  refine g_bipush C (6 : Int32) dX0_noteCut_0 rfl ?_
  refine g_aload_n C 0 0 o dX0_noteCut_2 rfl rfl ?_
  refine g_iconst C (2 : Int32) dX0_noteCut_3 rfl ?_
  refine g_iload_n C 2 2 x2 dX0_noteCut_4 rfl rfl ?_
  refine g_callVi (As := [.int (2 : Int32), .int x2]) (rest := [.int (6 : Int32)]) C (c_X0_note l D cI cJ cZ cW o o_kinds o_amounts o_gone v_first v_size v_amounts v_kinds (2 : Int32) x2 fu _ h) 2 gd_X0_29 rfl rfl rfl (by decide +kernel) ⟨Nat.le_of_ble_eq_true rfl, Nat.le_of_ble_eq_true rfl⟩ ⟨Nat.le_of_ble_eq_true rfl, Nat.le_of_ble_eq_true rfl⟩ 0 0 rfl rfl rfl rfl (Nat.le_of_ble_eq_true rfl) [0, 1, 3] [some 0, some 1, none, some 2, none, none] rfl rfl rfl dX0_noteCut_5 (fun r5 u h => ?_)
  obtain ⟨z1, z2, z3, z4⟩ := u
  refine ⟨[(o, .inr (0, [.ref o_kinds, .ref o_amounts, .ref o_gone, .int z1, .int z2])), (o_amounts, .inl (cI, 14, .inl z3)), (o_gone, .inl (cJ, 84, .inr (.inl v_gone))), (o_kinds, .inl (cI, 14, .inl z4)), (o_a1, .inr (8, [.ref o_a1_levels, .int v_a1_ticks])), (o_a1_levels, .inl (cI, 360, .inl v_a1_levels))], rfl, rfl, rfl, ?_⟩
  refine g_imul C dX0_noteCut_8 ?_
  refine g_topi (fun y6 ey6 => ?_)
  have h := h y6 ey6
  refine g_istore_n C [(3, .int y6), (0, .ref o), (1, .ref o_a1), (2, .int x2)] dX0_noteCut_9 rfl (by decide) rfl ?_
  refine g_iconst C (0 : Int32) dX0_noteCut_10 rfl ?_
  refine g_istore C [(4, .int (0 : Int32)), (3, .int y6), (0, .ref o), (1, .ref o_a1), (2, .int x2)] dX0_noteCut_11 (by decide) rfl ?_
  refine g_lv [2, 3, 4, 1, 0] rfl ?_
  exact H13 fu  y6 (0 : Int32) z1 z2 z3 v_gone z4 h
abbrev rmX0_bringBack : Room := { frames := 1, cells := 0, slots := 0, locals := 23 }
def wX0_bringBack_2 (fu : Nat) (v_amounts : (Nat → Int32)) (v_gone : (Nat → Int64)) (x2 : Int32) (Q : Int32 → (Nat → Int32) → Prop) : Nat → Int32 → Int32 → (Nat → Int32) → Prop
  | 0, _, _, _ => False
  | n0 + 1, x3, v_a1_ticks, v_a1_levels => (vp_in x2 14 ∧ (if (v_amounts (ix x2)) ≤ x3 then Q v_a1_ticks v_a1_levels else (if (360 : Int32) ≤ x3 then Q v_a1_ticks v_a1_levels else (vp_in (((6 : Int32) * x2) + (x3 / (64 : Int32))) 84 ∧ (∀ y5 : Int64, y5 = (v_gone (ix (((6 : Int32) * x2) + (x3 / (64 : Int32))))) → wp_X8_extend fu (Int64.toInt32 ((lus y5 (irm x3 (64 : Int32))) &&& (1 : Int64))) (1 : Int32) v_a1_ticks v_a1_levels (fun (z6 : Int32) (z7 : (Nat → Int32)) => (wX0_bringBack_2 fu v_amounts v_gone x2 Q n0) (x3 + (1 : Int32)) z6 z7))))))
def wp_X0_bringBack (fu : Nat) (v_amounts : (Nat → Int32)) (v_gone : (Nat → Int64)) (x2 : Int32) (v_a1_ticks : Int32) (v_a1_levels : (Nat → Int32)) (Q : Int32 → (Nat → Int32) → Prop) : Prop := wX0_bringBack_2 fu v_amounts v_gone x2 Q fu (0 : Int32) v_a1_ticks v_a1_levels
set_option maxHeartbeats 4000000 in
set_option maxRecDepth 100000 in
theorem c_X0_bringBack (l : Launch) (D : va_G) (cI cJ cZ cW : ClassId) (o o_kinds o_amounts o_gone o_a1 o_a1_levels : Nat) (v_first : Int32) (v_size : Int32) (v_amounts : (Nat → Int32)) (v_gone : (Nat → Int64)) (v_a1_ticks : Int32) (v_a1_levels : (Nat → Int32)) (x2 : Int32) (fu : Nat) (Q : Int32 → (Nat → Int32) → Prop) (h : wp_X0_bringBack fu v_amounts v_gone x2 v_a1_ticks v_a1_levels Q) : CtV l yX0_bringBack wkX0_bringBack rmX0_bringBack D (tys4 cI cJ cZ cW) [.ref o, .ref o_a1, .int x2] [(o, .inr (0, [.ref o_kinds, .ref o_amounts, .ref o_gone, .int v_first, .int v_size])), (o_amounts, .inl (cI, 14, .inl v_amounts)), (o_gone, .inl (cJ, 84, .inr (.inl v_gone))), (o_a1, .inr (8, [.ref o_a1_levels, .int v_a1_ticks])), (o_a1_levels, .inl (cI, 360, .inl v_a1_levels))] (fun (u : Int32 × (Nat → Int32)) => Q u.1 u.2) (fun (u : Int32 × (Nat → Int32)) => [(o, .inr (0, [.ref o_kinds, .ref o_amounts, .ref o_gone, .int v_first, .int v_size])), (o_amounts, .inl (cI, 14, .inl v_amounts)), (o_gone, .inl (cJ, 84, .inr (.inl v_gone))), (o_a1, .inr (8, [.ref o_a1_levels, .int u.1])), (o_a1_levels, .inl (cI, 360, .inl u.2))]) := by
  refine CtV.of (S := Int32 × (Nat → Int32)) (y := yX0_bringBack) (Tc := wkX0_bringBack) (rm := rmX0_bringBack) (D := D) (tys := tys4 cI cJ cZ cW) (av := [.ref o, .ref o_a1, .int x2]) (wc := [(o, .inr (0, [.ref o_kinds, .ref o_amounts, .ref o_gone, .int v_first, .int v_size])), (o_amounts, .inl (cI, 14, .inl v_amounts)), (o_gone, .inl (cJ, 84, .inr (.inl v_gone))), (o_a1, .inr (8, [.ref o_a1_levels, .int v_a1_ticks])), (o_a1_levels, .inl (cI, 360, .inl v_a1_levels))]) (post := (fun (u : Int32 × (Nat → Int32)) => Q u.1 u.2)) (w1 := (fun (u : Int32 × (Nat → Int32)) => [(o, .inr (0, [.ref o_kinds, .ref o_amounts, .ref o_gone, .int v_first, .int v_size])), (o_amounts, .inl (cI, 14, .inl v_amounts)), (o_gone, .inl (cJ, 84, .inr (.inl v_gone))), (o_a1, .inr (8, [.ref o_a1_levels, .int u.1])), (o_a1_levels, .inl (cI, 360, .inl u.2))])) (cc := cX0_bringBack) (maxL := 6) RX0 rfl (by decide +kernel) rfl rfl [(0, .ref o), (1, .ref o_a1), (2, .int x2)] rfl ?_
  intro p e s m args below meth c A Qm C hret
  have H2 : ∀ (n2 : Nat) (x3 : Int32) (v_a1_ticks : Int32) (v_a1_levels : (Nat → Int32)), wX0_bringBack_2 fu v_amounts v_gone x2 Q n2 x3 v_a1_ticks v_a1_levels → G p l e rmX0_bringBack s m args below meth c D A 6 0 0 Qm [(o, .inr (0, [.ref o_kinds, .ref o_amounts, .ref o_gone, .int v_first, .int v_size])), (o_amounts, .inl (cI, 14, .inl v_amounts)), (o_gone, .inl (cJ, 84, .inr (.inl v_gone))), (o_a1, .inr (8, [.ref o_a1_levels, .int v_a1_ticks])), (o_a1_levels, .inl (cI, 360, .inl v_a1_levels))] [(0, .ref o), (1, .ref o_a1), (2, .int x2), (3, .int x3)] 2 [] := by
    intro n2
    induction n2 with
    | zero => intro x3 v_a1_ticks v_a1_levels h; exact False.elim h
    | succ n2 ih2 =>
      intro x3 v_a1_ticks v_a1_levels h
      unfold wX0_bringBack_2 at h
      refine g_iload_n C 3 3 x3 dX0_bringBack_2 rfl rfl ?_
      refine g_aload_n C 0 0 o dX0_bringBack_3 rfl rfl ?_
      refine g_get C 0 ix_0 0 _ rfl rfl 1 (by decide) wm_70 rfl (.ref o_amounts) rfl dX0_bringBack_4 ?_
      refine g_iload_n C 2 2 x2 dX0_bringBack_7 rfl rfl ?_
      obtain ⟨hi1, h⟩ := h
      refine g_iald C 1 0 cI 14 v_amounts rfl rfl hi1 dX0_bringBack_8 ?_
      refine g_icmp_ge C 56 dX0_bringBack_9 (by decide) (fun c2 => ?_) (fun c2 => ?_)
      · have h := wp_t c2 h
        exact hret (v_a1_ticks, v_a1_levels) _ _ _ dX0_bringBack_56 h rfl
      have h := wp_f c2 h
      refine g_iload_n C 3 3 x3 dX0_bringBack_12 rfl rfl ?_
      refine g_sipush C (360 : Int32) dX0_bringBack_13 rfl ?_
      refine g_icmp_ge C 56 dX0_bringBack_16 (by decide) (fun c3 => ?_) (fun c3 => ?_)
      · have h := wp_t c3 h
        exact hret (v_a1_ticks, v_a1_levels) _ _ _ dX0_bringBack_56 h rfl
      have h := wp_f c3 h
      refine g_aload_n C 0 0 o dX0_bringBack_19 rfl rfl ?_
      refine g_get C 0 ix_0 0 _ rfl rfl 2 (by decide) wm_72 rfl (.ref o_gone) rfl dX0_bringBack_20 ?_
      refine g_bipush C (6 : Int32) dX0_bringBack_23 rfl ?_
      refine g_iload_n C 2 2 x2 dX0_bringBack_25 rfl rfl ?_
      refine g_imul C dX0_bringBack_26 ?_
      refine g_iload_n C 3 3 x3 dX0_bringBack_27 rfl rfl ?_
      refine g_bipush C (64 : Int32) dX0_bringBack_28 rfl ?_
      refine g_idiv C (by decide) dX0_bringBack_30 ?_
      refine g_iadd C dX0_bringBack_31 ?_
      obtain ⟨hi4, h⟩ := h
      refine g_lald C 2 1 cJ 84 v_gone rfl rfl hi4 dX0_bringBack_32 ?_
      refine g_topl (fun y5 ey5 => ?_)
      have h := h y5 ey5
      refine g_lstore C [(4, .long y5), (0, .ref o), (1, .ref o_a1), (2, .int x2), (3, .int x3)] dX0_bringBack_33 (by decide) rfl ?_
      refine g_aload_n C 1 2 o_a1 dX0_bringBack_35 rfl rfl ?_
      refine g_lload C 4 0 y5 dX0_bringBack_36 rfl ?_
      refine g_iload_n C 3 4 x3 dX0_bringBack_38 rfl rfl ?_
      refine g_bipush C (64 : Int32) dX0_bringBack_39 rfl ?_
      refine g_irem C (by decide) dX0_bringBack_41 ?_
      refine g_lushr C dX0_bringBack_42 ?_
      refine g_lconst C (1 : Int64) dX0_bringBack_43 rfl ?_
      refine g_land C dX0_bringBack_44 ?_
      refine g_l2i C dX0_bringBack_45 ?_
      refine g_iconst C (1 : Int32) dX0_bringBack_46 rfl ?_
      refine g_callVv (As := [.int (Int64.toInt32 ((lus y5 (irm x3 (64 : Int32))) &&& (1 : Int64))), .int (1 : Int32)]) (rest := []) C (c_X8_extend l D cI cJ cZ cW o_a1 o_a1_levels v_a1_ticks v_a1_levels (Int64.toInt32 ((lus y5 (irm x3 (64 : Int32))) &&& (1 : Int64))) (1 : Int32) fu _ h) 2 gd_X0_53 rfl rfl rfl (by decide +kernel) ⟨Nat.le_of_ble_eq_true rfl, Nat.le_of_ble_eq_true rfl⟩ ⟨Nat.le_of_ble_eq_true rfl, Nat.le_of_ble_eq_true rfl⟩ 8 3 rfl rfl rfl rfl (Nat.le_of_ble_eq_true rfl) [3, 4] [none, none, none, some 0, some 1] rfl rfl rfl dX0_bringBack_47 (fun u h => ?_)
      obtain ⟨z6, z7⟩ := u
      refine ⟨[(o, .inr (0, [.ref o_kinds, .ref o_amounts, .ref o_gone, .int v_first, .int v_size])), (o_amounts, .inl (cI, 14, .inl v_amounts)), (o_gone, .inl (cJ, 84, .inr (.inl v_gone))), (o_a1, .inr (8, [.ref o_a1_levels, .int z6])), (o_a1_levels, .inl (cI, 360, .inl z7))], rfl, rfl, rfl, ?_⟩
      refine g_iinc C 4 x3 (x3 + (1 : Int32)) [(3, .int (x3 + (1 : Int32))), (4, .long y5), (0, .ref o), (1, .ref o_a1), (2, .int x2)] dX0_bringBack_50 rfl rfl (by decide) rfl ?_
      refine g_goto C 2 dX0_bringBack_53 (by decide) ?_
      refine g_lv [2, 3, 4, 0] rfl ?_
      exact ih2  (x3 + (1 : Int32)) z6 z7 h
  unfold wp_X0_bringBack at h
  refine g_iconst C (0 : Int32) dX0_bringBack_0 rfl ?_
  refine g_istore_n C [(3, .int (0 : Int32)), (0, .ref o), (1, .ref o_a1), (2, .int x2)] dX0_bringBack_1 rfl (by decide) rfl ?_
  refine g_lv [1, 2, 3, 0] rfl ?_
  exact H2 fu  (0 : Int32) v_a1_ticks v_a1_levels h
abbrev rmX0_takeBackLast : Room := { frames := 2, cells := 0, slots := 0, locals := 48 }
def wp_X0_takeBackLast (fu : Nat) (v_first : Int32) (v_amounts : (Nat → Int32)) (v_gone : (Nat → Int64)) (v_kinds : (Nat → Int32)) (v_size : Int32) (v_a1_ticks : Int32) (v_a1_levels : (Nat → Int32)) (Q : Int32 → Int32 → (Nat → Int32) → Prop) : Prop := (if v_size = 0 then Q v_size v_a1_ticks v_a1_levels else (∀ y2 : Int32, y2 = (irm (v_first + (v_size - (1 : Int32))) (14 : Int32)) → (vp_in y2 14 ∧ (if (v_kinds (ix y2)) = 0 then (vp_in y2 14 ∧ wp_X8_shorten fu (v_amounts (ix y2)) v_a1_ticks (fun (z12 : Int32) => Q (v_size - (1 : Int32)) z12 v_a1_levels)) else (vp_in y2 14 ∧ (if (v_kinds (ix y2)) = (1 : Int32) then (vp_in y2 14 ∧ wp_X8_turnOver fu v_a1_ticks (v_amounts (ix y2)) v_a1_levels (fun (z10 : (Nat → Int32)) => Q (v_size - (1 : Int32)) v_a1_ticks z10)) else wp_X0_bringBack fu v_amounts v_gone y2 v_a1_ticks v_a1_levels (fun (z7 : Int32) (z8 : (Nat → Int32)) => Q (v_size - (1 : Int32)) z7 z8)))))))
set_option maxHeartbeats 4000000 in
set_option maxRecDepth 100000 in
theorem c_X0_takeBackLast (l : Launch) (D : va_G) (cI cJ cZ cW : ClassId) (o o_kinds o_amounts o_gone o_a1 o_a1_levels : Nat) (v_first : Int32) (v_size : Int32) (v_amounts : (Nat → Int32)) (v_gone : (Nat → Int64)) (v_kinds : (Nat → Int32)) (v_a1_ticks : Int32) (v_a1_levels : (Nat → Int32)) (fu : Nat) (Q : Int32 → Int32 → (Nat → Int32) → Prop) (h : wp_X0_takeBackLast fu v_first v_amounts v_gone v_kinds v_size v_a1_ticks v_a1_levels Q) : CtV l yX0_takeBackLast wkX0_takeBackLast rmX0_takeBackLast D (tys4 cI cJ cZ cW) [.ref o, .ref o_a1] [(o, .inr (0, [.ref o_kinds, .ref o_amounts, .ref o_gone, .int v_first, .int v_size])), (o_amounts, .inl (cI, 14, .inl v_amounts)), (o_gone, .inl (cJ, 84, .inr (.inl v_gone))), (o_kinds, .inl (cI, 14, .inl v_kinds)), (o_a1, .inr (8, [.ref o_a1_levels, .int v_a1_ticks])), (o_a1_levels, .inl (cI, 360, .inl v_a1_levels))] (fun (u : Int32 × Int32 × (Nat → Int32)) => Q u.1 u.2.1 u.2.2) (fun (u : Int32 × Int32 × (Nat → Int32)) => [(o, .inr (0, [.ref o_kinds, .ref o_amounts, .ref o_gone, .int v_first, .int u.1])), (o_amounts, .inl (cI, 14, .inl v_amounts)), (o_gone, .inl (cJ, 84, .inr (.inl v_gone))), (o_kinds, .inl (cI, 14, .inl v_kinds)), (o_a1, .inr (8, [.ref o_a1_levels, .int u.2.1])), (o_a1_levels, .inl (cI, 360, .inl u.2.2))]) := by
  refine CtV.of (S := Int32 × Int32 × (Nat → Int32)) (y := yX0_takeBackLast) (Tc := wkX0_takeBackLast) (rm := rmX0_takeBackLast) (D := D) (tys := tys4 cI cJ cZ cW) (av := [.ref o, .ref o_a1]) (wc := [(o, .inr (0, [.ref o_kinds, .ref o_amounts, .ref o_gone, .int v_first, .int v_size])), (o_amounts, .inl (cI, 14, .inl v_amounts)), (o_gone, .inl (cJ, 84, .inr (.inl v_gone))), (o_kinds, .inl (cI, 14, .inl v_kinds)), (o_a1, .inr (8, [.ref o_a1_levels, .int v_a1_ticks])), (o_a1_levels, .inl (cI, 360, .inl v_a1_levels))]) (post := (fun (u : Int32 × Int32 × (Nat → Int32)) => Q u.1 u.2.1 u.2.2)) (w1 := (fun (u : Int32 × Int32 × (Nat → Int32)) => [(o, .inr (0, [.ref o_kinds, .ref o_amounts, .ref o_gone, .int v_first, .int u.1])), (o_amounts, .inl (cI, 14, .inl v_amounts)), (o_gone, .inl (cJ, 84, .inr (.inl v_gone))), (o_kinds, .inl (cI, 14, .inl v_kinds)), (o_a1, .inr (8, [.ref o_a1_levels, .int u.2.1])), (o_a1_levels, .inl (cI, 360, .inl u.2.2))])) (cc := cX0_takeBackLast) (maxL := 3) RX0 rfl (by decide +kernel) rfl rfl [(0, .ref o), (1, .ref o_a1)] rfl ?_
  intro p e s m args below meth c A Qm C hret
  unfold wp_X0_takeBackLast at h
  refine g_aload_n C 0 0 o dX0_takeBackLast_0 rfl rfl ?_
  refine g_get C 0 ix_0 0 _ rfl rfl 4 (by decide) wm_74 rfl (.int v_size) rfl dX0_takeBackLast_1 ?_
  refine g_if_ne C 8 dX0_takeBackLast_4 (by decide) (fun c1 => ?_) (fun c1 => ?_)
  rotate_left
  · have h := wp_t c1 h
    exact hret (v_size, v_a1_ticks, v_a1_levels) _ _ _ dX0_takeBackLast_7 h rfl
  have h := wp_f c1 h
  refine g_aload_n C 0 0 o dX0_takeBackLast_8 rfl rfl ?_
  refine g_dup C dX0_takeBackLast_9 rfl ?_
  refine g_get C 0 ix_0 0 _ rfl rfl 4 (by decide) wm_74 rfl (.int v_size) rfl dX0_takeBackLast_10 ?_
  refine g_iconst C (1 : Int32) dX0_takeBackLast_13 rfl ?_
  refine g_isub C dX0_takeBackLast_14 ?_
  refine g_put C 0 ix_0 0 _ rfl rfl 4 (by decide) wm_74 rfl tyX0 tyX0_ok nmX0 rfl rfl rfl (Nat.le_of_ble_eq_true rfl) dX0_takeBackLast_15 [(o, .inr (0, [.ref o_kinds, .ref o_amounts, .ref o_gone, .int v_first, .int (v_size - (1 : Int32))])), (o_amounts, .inl (cI, 14, .inl v_amounts)), (o_gone, .inl (cJ, 84, .inr (.inl v_gone))), (o_kinds, .inl (cI, 14, .inl v_kinds)), (o_a1, .inr (8, [.ref o_a1_levels, .int v_a1_ticks])), (o_a1_levels, .inl (cI, 360, .inl v_a1_levels))] rfl ?_
  refine g_aload_n C 0 0 o dX0_takeBackLast_18 rfl rfl ?_
  refine g_get C 0 ix_0 0 _ rfl rfl 3 (by decide) wm_73 rfl (.int v_first) rfl dX0_takeBackLast_19 ?_
  refine g_aload_n C 0 0 o dX0_takeBackLast_22 rfl rfl ?_
  refine g_get C 0 ix_0 0 _ rfl rfl 4 (by decide) wm_74 rfl (.int (v_size - (1 : Int32))) rfl dX0_takeBackLast_23 ?_
  refine g_iadd C dX0_takeBackLast_26 ?_
  refine g_bipush C (14 : Int32) dX0_takeBackLast_27 rfl ?_
  refine g_irem C (by decide) dX0_takeBackLast_29 ?_
  refine g_topi (fun y2 ey2 => ?_)
  have h := h y2 ey2
  refine g_istore_n C [(2, .int y2), (0, .ref o), (1, .ref o_a1)] dX0_takeBackLast_30 rfl (by decide) rfl ?_
  refine g_aload_n C 0 1 o dX0_takeBackLast_31 rfl rfl ?_
  refine g_get C 0 ix_0 0 _ rfl rfl 0 (by decide) wm_69 rfl (.ref o_kinds) rfl dX0_takeBackLast_32 ?_
  refine g_iload_n C 2 0 y2 dX0_takeBackLast_35 rfl rfl ?_
  obtain ⟨hi3, h⟩ := h
  refine g_iald C 3 0 cI 14 v_kinds rfl rfl hi3 dX0_takeBackLast_36 ?_
  refine g_if_ne C 53 dX0_takeBackLast_37 (by decide) (fun c4 => ?_) (fun c4 => ?_)
  rotate_left
  · have h := wp_t c4 h
    refine g_aload_n C 1 2 o_a1 dX0_takeBackLast_40 rfl rfl ?_
    refine g_aload_n C 0 1 o dX0_takeBackLast_41 rfl rfl ?_
    refine g_get C 0 ix_0 0 _ rfl rfl 1 (by decide) wm_70 rfl (.ref o_amounts) rfl dX0_takeBackLast_42 ?_
    refine g_iload_n C 2 0 y2 dX0_takeBackLast_45 rfl rfl ?_
    obtain ⟨hi11, h⟩ := h
    refine g_iald C 1 0 cI 14 v_amounts rfl rfl hi11 dX0_takeBackLast_46 ?_
    refine g_callVv (As := [.int (v_amounts (ix y2))]) (rest := []) C (c_X8_shorten l D cI cJ cZ cW o_a1 o_a1_levels v_a1_ticks (v_amounts (ix y2)) fu _ h) 1 gd_X0_42 rfl rfl rfl (by decide +kernel) ⟨Nat.le_of_ble_eq_true rfl, Nat.le_of_ble_eq_true rfl⟩ ⟨Nat.le_of_ble_eq_true rfl, Nat.le_of_ble_eq_true rfl⟩ 8 4 rfl rfl rfl rfl (Nat.le_of_ble_eq_true rfl) [4] [none, none, none, none, some 0, none] rfl rfl rfl dX0_takeBackLast_47 (fun u h => ?_)
    obtain ⟨z12, rfl⟩ : ∃ z, z = u := ⟨_, rfl⟩
    refine ⟨[(o, .inr (0, [.ref o_kinds, .ref o_amounts, .ref o_gone, .int v_first, .int (v_size - (1 : Int32))])), (o_amounts, .inl (cI, 14, .inl v_amounts)), (o_gone, .inl (cJ, 84, .inr (.inl v_gone))), (o_kinds, .inl (cI, 14, .inl v_kinds)), (o_a1, .inr (8, [.ref o_a1_levels, .int z12])), (o_a1_levels, .inl (cI, 360, .inl v_a1_levels))], rfl, rfl, rfl, ?_⟩
    refine g_goto C 82 dX0_takeBackLast_50 (by decide) ?_
    exact hret ((v_size - (1 : Int32)), z12, v_a1_levels) _ _ _ dX0_takeBackLast_82 h rfl
  have h := wp_f c4 h
  refine g_aload_n C 0 1 o dX0_takeBackLast_53 rfl rfl ?_
  refine g_get C 0 ix_0 0 _ rfl rfl 0 (by decide) wm_69 rfl (.ref o_kinds) rfl dX0_takeBackLast_54 ?_
  refine g_iload_n C 2 0 y2 dX0_takeBackLast_57 rfl rfl ?_
  obtain ⟨hi5, h⟩ := h
  refine g_iald C 3 0 cI 14 v_kinds rfl rfl hi5 dX0_takeBackLast_58 ?_
  refine g_iconst C (1 : Int32) dX0_takeBackLast_59 rfl ?_
  refine g_icmp_ne C 76 dX0_takeBackLast_60 (by decide) (fun c6 => ?_) (fun c6 => ?_)
  · have h := wp_f c6 h
    refine g_aload_n C 0 1 o dX0_takeBackLast_76 rfl rfl ?_
    refine g_aload_n C 1 2 o_a1 dX0_takeBackLast_77 rfl rfl ?_
    refine g_iload_n C 2 0 y2 dX0_takeBackLast_78 rfl rfl ?_
    refine g_callVv (As := [.ref o_a1, .int y2]) (rest := []) C (c_X0_bringBack l D cI cJ cZ cW o o_kinds o_amounts o_gone o_a1 o_a1_levels v_first (v_size - (1 : Int32)) v_amounts v_gone v_a1_ticks v_a1_levels y2 fu _ h) 2 gd_X0_49 rfl rfl rfl (by decide +kernel) ⟨Nat.le_of_ble_eq_true rfl, Nat.le_of_ble_eq_true rfl⟩ ⟨Nat.le_of_ble_eq_true rfl, Nat.le_of_ble_eq_true rfl⟩ 0 0 rfl rfl rfl rfl (Nat.le_of_ble_eq_true rfl) [0, 1, 2, 4, 5] [some 0, some 1, some 2, none, some 3, some 4] rfl rfl rfl dX0_takeBackLast_79 (fun u h => ?_)
    obtain ⟨z7, z8⟩ := u
    refine ⟨[(o, .inr (0, [.ref o_kinds, .ref o_amounts, .ref o_gone, .int v_first, .int (v_size - (1 : Int32))])), (o_amounts, .inl (cI, 14, .inl v_amounts)), (o_gone, .inl (cJ, 84, .inr (.inl v_gone))), (o_kinds, .inl (cI, 14, .inl v_kinds)), (o_a1, .inr (8, [.ref o_a1_levels, .int z7])), (o_a1_levels, .inl (cI, 360, .inl z8))], rfl, rfl, rfl, ?_⟩
    exact hret ((v_size - (1 : Int32)), z7, z8) _ _ _ dX0_takeBackLast_82 h rfl
  have h := wp_t c6 h
  refine g_aload_n C 1 2 o_a1 dX0_takeBackLast_63 rfl rfl ?_
  refine g_aload_n C 0 1 o dX0_takeBackLast_64 rfl rfl ?_
  refine g_get C 0 ix_0 0 _ rfl rfl 1 (by decide) wm_70 rfl (.ref o_amounts) rfl dX0_takeBackLast_65 ?_
  refine g_iload_n C 2 0 y2 dX0_takeBackLast_68 rfl rfl ?_
  obtain ⟨hi9, h⟩ := h
  refine g_iald C 1 0 cI 14 v_amounts rfl rfl hi9 dX0_takeBackLast_69 ?_
  refine g_callVv (As := [.int (v_amounts (ix y2))]) (rest := []) C (c_X8_turnOver l D cI cJ cZ cW o_a1 o_a1_levels v_a1_ticks v_a1_levels (v_amounts (ix y2)) fu _ h) 1 gd_X0_46 rfl rfl rfl (by decide +kernel) ⟨Nat.le_of_ble_eq_true rfl, Nat.le_of_ble_eq_true rfl⟩ ⟨Nat.le_of_ble_eq_true rfl, Nat.le_of_ble_eq_true rfl⟩ 8 4 rfl rfl rfl rfl (Nat.le_of_ble_eq_true rfl) [4, 5] [none, none, none, none, some 0, some 1] rfl rfl rfl dX0_takeBackLast_70 (fun u h => ?_)
  obtain ⟨z10, rfl⟩ : ∃ z, z = u := ⟨_, rfl⟩
  refine ⟨[(o, .inr (0, [.ref o_kinds, .ref o_amounts, .ref o_gone, .int v_first, .int (v_size - (1 : Int32))])), (o_amounts, .inl (cI, 14, .inl v_amounts)), (o_gone, .inl (cJ, 84, .inr (.inl v_gone))), (o_kinds, .inl (cI, 14, .inl v_kinds)), (o_a1, .inr (8, [.ref o_a1_levels, .int v_a1_ticks])), (o_a1_levels, .inl (cI, 360, .inl z10))], rfl, rfl, rfl, ?_⟩
  refine g_goto C 82 dX0_takeBackLast_73 (by decide) ?_
  exact hret ((v_size - (1 : Int32)), v_a1_ticks, z10) _ _ _ dX0_takeBackLast_82 h rfl
abbrev rmX5_mark : Room := { frames := 1, cells := 0, slots := 0, locals := 21 }
def wX5_mark_117 (fu : Nat) (v_a1_ticks : Int32) (v_a1_levels : (Nat → Int32)) (Q : Int32 → Int32 → (Nat → Int32) → (Nat → Int32) → Prop) (K79 : Int32 → Int32 → Int32 → Int32 → (Nat → Int32) → (Nat → Int32) → Prop) (x3 : Int32) (x4 : Int32) (v_runs : Int32) (v_ticks : Int32) (v_first : (Nat → Int32)) (v_last : (Nat → Int32)) : Prop := K79 x3 (x4 + (-1 : Int32)) v_runs v_ticks v_first v_last
def wX5_mark_79 (fu : Nat) (v_a1_ticks : Int32) (v_a1_levels : (Nat → Int32)) (Q : Int32 → Int32 → (Nat → Int32) → (Nat → Int32) → Prop) : Nat → Int32 → Int32 → Int32 → Int32 → (Nat → Int32) → (Nat → Int32) → Prop
  | 0, _, _, _, _, _, _ => False
  | n0 + 1, x3, x4, v_runs, v_ticks, v_first, v_last => (if x4 < 0 then Q v_runs v_ticks v_first v_last else (if (360 : Int32) ≤ x4 then Q v_runs v_ticks v_first v_last else (vp_in x4 360 ∧ (vp_in x4 360 ∧ (if (v_first (ix x4)) = x4 then (∀ y13 : Int32, y13 = (x4 - (1 : Int32)) → wX5_mark_117 fu v_a1_ticks v_a1_levels Q (wX5_mark_79 fu v_a1_ticks v_a1_levels Q n0) y13 x4 v_runs v_ticks v_first (upd v_last (ix x4) x3)) else wX5_mark_117 fu v_a1_ticks v_a1_levels Q (wX5_mark_79 fu v_a1_ticks v_a1_levels Q n0) x3 x4 v_runs v_ticks v_first (upd v_last (ix x4) x3))))))
def wX5_mark_69 (fu : Nat) (v_a1_ticks : Int32) (v_a1_levels : (Nat → Int32)) (Q : Int32 → Int32 → (Nat → Int32) → (Nat → Int32) → Prop) (v_runs : Int32) (v_ticks : Int32) (v_first : (Nat → Int32)) (v_last : (Nat → Int32)) : Prop := (∀ y7 : Int32, y7 = (v_ticks - (1 : Int32)) → wX5_mark_79 fu v_a1_ticks v_a1_levels Q fu y7 y7 v_runs v_ticks v_first v_last)
def wX5_mark_56 (fu : Nat) (v_a1_ticks : Int32) (v_a1_levels : (Nat → Int32)) (Q : Int32 → Int32 → (Nat → Int32) → (Nat → Int32) → Prop) (K17 : Int32 → Int32 → Int32 → Int32 → (Nat → Int32) → (Nat → Int32) → Prop) (x2 : Int32) (x3 : Int32) (v_runs : Int32) (v_ticks : Int32) (v_first : (Nat → Int32)) (v_last : (Nat → Int32)) : Prop := (vp_in x3 360 ∧ K17 x2 (x3 + (1 : Int32)) v_runs v_ticks (upd v_first (ix x3) x2) v_last)
def wX5_mark_44 (fu : Nat) (v_a1_ticks : Int32) (v_a1_levels : (Nat → Int32)) (Q : Int32 → Int32 → (Nat → Int32) → (Nat → Int32) → Prop) (K17 : Int32 → Int32 → Int32 → Int32 → (Nat → Int32) → (Nat → Int32) → Prop) (x3 : Int32) (v_runs : Int32) (v_ticks : Int32) (v_first : (Nat → Int32)) (v_last : (Nat → Int32)) : Prop := wX5_mark_56 fu v_a1_ticks v_a1_levels Q K17 x3 x3 (v_runs + (1 : Int32)) v_ticks v_first v_last
def wX5_mark_17 (fu : Nat) (v_a1_ticks : Int32) (v_a1_levels : (Nat → Int32)) (Q : Int32 → Int32 → (Nat → Int32) → (Nat → Int32) → Prop) : Nat → Int32 → Int32 → Int32 → Int32 → (Nat → Int32) → (Nat → Int32) → Prop
  | 0, _, _, _, _, _, _ => False
  | n0 + 1, x2, x3, v_runs, v_ticks, v_first, v_last => (if v_ticks ≤ x3 then wX5_mark_69 fu v_a1_ticks v_a1_levels Q v_runs v_ticks v_first v_last else (if (360 : Int32) ≤ x3 then wX5_mark_69 fu v_a1_ticks v_a1_levels Q v_runs v_ticks v_first v_last else (if x3 = 0 then wX5_mark_44 fu v_a1_ticks v_a1_levels Q (wX5_mark_17 fu v_a1_ticks v_a1_levels Q n0) x3 v_runs v_ticks v_first v_last else wp_X8_isEdge fu v_a1_ticks v_a1_levels x3 (fun (r4 : Int32) => (if r4 = 0 then wX5_mark_56 fu v_a1_ticks v_a1_levels Q (wX5_mark_17 fu v_a1_ticks v_a1_levels Q n0) x2 x3 v_runs v_ticks v_first v_last else wX5_mark_44 fu v_a1_ticks v_a1_levels Q (wX5_mark_17 fu v_a1_ticks v_a1_levels Q n0) x3 v_runs v_ticks v_first v_last)))))
def wp_X5_mark (fu : Nat) (v_a1_ticks : Int32) (v_a1_levels : (Nat → Int32)) (v_runs : Int32) (v_ticks : Int32) (v_first : (Nat → Int32)) (v_last : (Nat → Int32)) (Q : Int32 → Int32 → (Nat → Int32) → (Nat → Int32) → Prop) : Prop := wX5_mark_17 fu v_a1_ticks v_a1_levels Q fu (0 : Int32) (0 : Int32) (0 : Int32) v_a1_ticks v_first v_last
set_option maxHeartbeats 4000000 in
set_option maxRecDepth 100000 in
theorem c_X5_mark (l : Launch) (D : va_G) (cI cJ cZ cW : ClassId) (o o_first o_last o_a1 o_a1_levels : Nat) (v_ticks : Int32) (v_runs : Int32) (v_first : (Nat → Int32)) (v_last : (Nat → Int32)) (v_a1_ticks : Int32) (v_a1_levels : (Nat → Int32)) (fu : Nat) (Q : Int32 → Int32 → (Nat → Int32) → (Nat → Int32) → Prop) (h : wp_X5_mark fu v_a1_ticks v_a1_levels v_runs v_ticks v_first v_last Q) : CtV l yX5_mark wkX5_mark rmX5_mark D (tys4 cI cJ cZ cW) [.ref o, .ref o_a1] [(o, .inr (5, [.ref o_first, .ref o_last, .int v_ticks, .int v_runs])), (o_first, .inl (cI, 360, .inl v_first)), (o_last, .inl (cI, 360, .inl v_last)), (o_a1, .inr (8, [.ref o_a1_levels, .int v_a1_ticks])), (o_a1_levels, .inl (cI, 360, .inl v_a1_levels))] (fun (u : Int32 × Int32 × (Nat → Int32) × (Nat → Int32)) => Q u.1 u.2.1 u.2.2.1 u.2.2.2) (fun (u : Int32 × Int32 × (Nat → Int32) × (Nat → Int32)) => [(o, .inr (5, [.ref o_first, .ref o_last, .int u.2.1, .int u.1])), (o_first, .inl (cI, 360, .inl u.2.2.1)), (o_last, .inl (cI, 360, .inl u.2.2.2)), (o_a1, .inr (8, [.ref o_a1_levels, .int v_a1_ticks])), (o_a1_levels, .inl (cI, 360, .inl v_a1_levels))]) := by
  refine CtV.of (S := Int32 × Int32 × (Nat → Int32) × (Nat → Int32)) (y := yX5_mark) (Tc := wkX5_mark) (rm := rmX5_mark) (D := D) (tys := tys4 cI cJ cZ cW) (av := [.ref o, .ref o_a1]) (wc := [(o, .inr (5, [.ref o_first, .ref o_last, .int v_ticks, .int v_runs])), (o_first, .inl (cI, 360, .inl v_first)), (o_last, .inl (cI, 360, .inl v_last)), (o_a1, .inr (8, [.ref o_a1_levels, .int v_a1_ticks])), (o_a1_levels, .inl (cI, 360, .inl v_a1_levels))]) (post := (fun (u : Int32 × Int32 × (Nat → Int32) × (Nat → Int32)) => Q u.1 u.2.1 u.2.2.1 u.2.2.2)) (w1 := (fun (u : Int32 × Int32 × (Nat → Int32) × (Nat → Int32)) => [(o, .inr (5, [.ref o_first, .ref o_last, .int u.2.1, .int u.1])), (o_first, .inl (cI, 360, .inl u.2.2.1)), (o_last, .inl (cI, 360, .inl u.2.2.2)), (o_a1, .inr (8, [.ref o_a1_levels, .int v_a1_ticks])), (o_a1_levels, .inl (cI, 360, .inl v_a1_levels))])) (cc := cX5_mark) (maxL := 5) RX5 rfl (by decide +kernel) rfl rfl [(0, .ref o), (1, .ref o_a1)] rfl ?_
  intro p e s m args below meth c A Qm C hret
  have H79 : ∀ (n79 : Nat) (x3 : Int32) (x4 : Int32) (v_runs : Int32) (v_ticks : Int32) (v_first : (Nat → Int32)) (v_last : (Nat → Int32)), wX5_mark_79 fu v_a1_ticks v_a1_levels Q n79 x3 x4 v_runs v_ticks v_first v_last → G p l e rmX5_mark s m args below meth c D A 5 0 0 Qm [(o, .inr (5, [.ref o_first, .ref o_last, .int v_ticks, .int v_runs])), (o_first, .inl (cI, 360, .inl v_first)), (o_last, .inl (cI, 360, .inl v_last)), (o_a1, .inr (8, [.ref o_a1_levels, .int v_a1_ticks])), (o_a1_levels, .inl (cI, 360, .inl v_a1_levels))] [(0, .ref o), (3, .int x3), (4, .int x4)] 79 [] := by
    intro n79
    induction n79 with
    | zero => intro x3 x4 v_runs v_ticks v_first v_last h; exact False.elim h
    | succ n79 ih79 =>
      have H117 : ∀ (x3 : Int32) (x4 : Int32) (v_runs : Int32) (v_ticks : Int32) (v_first : (Nat → Int32)) (v_last : (Nat → Int32)), wX5_mark_117 fu v_a1_ticks v_a1_levels Q (wX5_mark_79 fu v_a1_ticks v_a1_levels Q n79) x3 x4 v_runs v_ticks v_first v_last → G p l e rmX5_mark s m args below meth c D A 5 0 0 Qm [(o, .inr (5, [.ref o_first, .ref o_last, .int v_ticks, .int v_runs])), (o_first, .inl (cI, 360, .inl v_first)), (o_last, .inl (cI, 360, .inl v_last)), (o_a1, .inr (8, [.ref o_a1_levels, .int v_a1_ticks])), (o_a1_levels, .inl (cI, 360, .inl v_a1_levels))] [(0, .ref o), (3, .int x3), (4, .int x4)] 117 [] := by
        intro x3 x4 v_runs v_ticks v_first v_last h
        unfold wX5_mark_117 at h
        refine g_iinc C 2 x4 (x4 + (-1 : Int32)) [(4, .int (x4 + (-1 : Int32))), (0, .ref o), (3, .int x3)] dX5_mark_117 rfl rfl (by decide) rfl ?_
        refine g_goto C 79 dX5_mark_120 (by decide) ?_
        refine g_lv [1, 2, 0] rfl ?_
        exact ih79  x3 (x4 + (-1 : Int32)) v_runs v_ticks v_first v_last h
      intro x3 x4 v_runs v_ticks v_first v_last h
      unfold wX5_mark_79 at h
      refine g_iload C 4 2 x4 dX5_mark_79 rfl ?_
      refine g_if_lt C 123 dX5_mark_81 (by decide) (fun c8 => ?_) (fun c8 => ?_)
      · have h := wp_t c8 h
        exact hret (v_runs, v_ticks, v_first, v_last) _ _ _ dX5_mark_123 h rfl
      have h := wp_f c8 h
      refine g_iload C 4 2 x4 dX5_mark_84 rfl ?_
      refine g_sipush C (360 : Int32) dX5_mark_86 rfl ?_
      refine g_icmp_ge C 123 dX5_mark_89 (by decide) (fun c9 => ?_) (fun c9 => ?_)
      · have h := wp_t c9 h
        exact hret (v_runs, v_ticks, v_first, v_last) _ _ _ dX5_mark_123 h rfl
      have h := wp_f c9 h
      refine g_aload_n C 0 0 o dX5_mark_92 rfl rfl ?_
      refine g_get C 5 ix_5 0 _ rfl rfl 1 (by decide) wm_108 rfl (.ref o_last) rfl dX5_mark_93 ?_
      refine g_iload C 4 2 x4 dX5_mark_96 rfl ?_
      refine g_iload_n C 3 1 x3 dX5_mark_98 rfl rfl ?_
      obtain ⟨hi10, h⟩ := h
      refine g_iast C 2 0 cI 360 v_last rfl rfl hi10 dX5_mark_99 [(o, .inr (5, [.ref o_first, .ref o_last, .int v_ticks, .int v_runs])), (o_first, .inl (cI, 360, .inl v_first)), (o_last, .inl (cI, 360, .inl (upd v_last (ix x4) x3))), (o_a1, .inr (8, [.ref o_a1_levels, .int v_a1_ticks])), (o_a1_levels, .inl (cI, 360, .inl v_a1_levels))] rfl ?_
      refine g_aload_n C 0 0 o dX5_mark_100 rfl rfl ?_
      refine g_get C 5 ix_5 0 _ rfl rfl 0 (by decide) wm_107 rfl (.ref o_first) rfl dX5_mark_101 ?_
      refine g_iload C 4 2 x4 dX5_mark_104 rfl ?_
      obtain ⟨hi11, h⟩ := h
      refine g_iald C 1 0 cI 360 v_first rfl rfl hi11 dX5_mark_106 ?_
      refine g_iload C 4 2 x4 dX5_mark_107 rfl ?_
      refine g_icmp_ne C 117 dX5_mark_109 (by decide) (fun c12 => ?_) (fun c12 => ?_)
      · have h := wp_f c12 h
        refine g_lv [0, 1, 2] rfl ?_
        exact H117  x3 x4 v_runs v_ticks v_first (upd v_last (ix x4) x3) h
      have h := wp_t c12 h
      refine g_iload C 4 2 x4 dX5_mark_112 rfl ?_
      refine g_iconst C (1 : Int32) dX5_mark_114 rfl ?_
      refine g_isub C dX5_mark_115 ?_
      refine g_topi (fun y13 ey13 => ?_)
      have h := h y13 ey13
      refine g_istore_n C [(3, .int y13), (0, .ref o), (4, .int x4)] dX5_mark_116 rfl (by decide) rfl ?_
      refine g_lv [1, 0, 2] rfl ?_
      exact H117  y13 x4 v_runs v_ticks v_first (upd v_last (ix x4) x3) h
  have H69 : ∀ (v_runs : Int32) (v_ticks : Int32) (v_first : (Nat → Int32)) (v_last : (Nat → Int32)), wX5_mark_69 fu v_a1_ticks v_a1_levels Q v_runs v_ticks v_first v_last → G p l e rmX5_mark s m args below meth c D A 5 0 0 Qm [(o, .inr (5, [.ref o_first, .ref o_last, .int v_ticks, .int v_runs])), (o_first, .inl (cI, 360, .inl v_first)), (o_last, .inl (cI, 360, .inl v_last)), (o_a1, .inr (8, [.ref o_a1_levels, .int v_a1_ticks])), (o_a1_levels, .inl (cI, 360, .inl v_a1_levels))] [(0, .ref o)] 69 [] := by
    intro v_runs v_ticks v_first v_last h
    unfold wX5_mark_69 at h
    refine g_aload_n C 0 0 o dX5_mark_69 rfl rfl ?_
    refine g_get C 5 ix_5 0 _ rfl rfl 2 (by decide) wm_109 rfl (.int v_ticks) rfl dX5_mark_70 ?_
    refine g_iconst C (1 : Int32) dX5_mark_73 rfl ?_
    refine g_isub C dX5_mark_74 ?_
    refine g_topi (fun y7 ey7 => ?_)
    have h := h y7 ey7
    refine g_istore_n C [(3, .int y7), (0, .ref o)] dX5_mark_75 rfl (by decide) rfl ?_
    refine g_iload_n C 3 0 y7 dX5_mark_76 rfl rfl ?_
    refine g_istore C [(4, .int y7), (3, .int y7), (0, .ref o)] dX5_mark_77 (by decide) rfl ?_
    refine g_lv [2, 1, 0] rfl ?_
    exact H79 fu  y7 y7 v_runs v_ticks v_first v_last h
  have H17 : ∀ (n17 : Nat) (x2 : Int32) (x3 : Int32) (v_runs : Int32) (v_ticks : Int32) (v_first : (Nat → Int32)) (v_last : (Nat → Int32)), wX5_mark_17 fu v_a1_ticks v_a1_levels Q n17 x2 x3 v_runs v_ticks v_first v_last → G p l e rmX5_mark s m args below meth c D A 5 0 0 Qm [(o, .inr (5, [.ref o_first, .ref o_last, .int v_ticks, .int v_runs])), (o_first, .inl (cI, 360, .inl v_first)), (o_last, .inl (cI, 360, .inl v_last)), (o_a1, .inr (8, [.ref o_a1_levels, .int v_a1_ticks])), (o_a1_levels, .inl (cI, 360, .inl v_a1_levels))] [(0, .ref o), (1, .ref o_a1), (2, .int x2), (3, .int x3)] 17 [] := by
    intro n17
    induction n17 with
    | zero => intro x2 x3 v_runs v_ticks v_first v_last h; exact False.elim h
    | succ n17 ih17 =>
      have H56 : ∀ (x2 : Int32) (x3 : Int32) (v_runs : Int32) (v_ticks : Int32) (v_first : (Nat → Int32)) (v_last : (Nat → Int32)), wX5_mark_56 fu v_a1_ticks v_a1_levels Q (wX5_mark_17 fu v_a1_ticks v_a1_levels Q n17) x2 x3 v_runs v_ticks v_first v_last → G p l e rmX5_mark s m args below meth c D A 5 0 0 Qm [(o, .inr (5, [.ref o_first, .ref o_last, .int v_ticks, .int v_runs])), (o_first, .inl (cI, 360, .inl v_first)), (o_last, .inl (cI, 360, .inl v_last)), (o_a1, .inr (8, [.ref o_a1_levels, .int v_a1_ticks])), (o_a1_levels, .inl (cI, 360, .inl v_a1_levels))] [(0, .ref o), (1, .ref o_a1), (2, .int x2), (3, .int x3)] 56 [] := by
        intro x2 x3 v_runs v_ticks v_first v_last h
        unfold wX5_mark_56 at h
        refine g_aload_n C 0 0 o dX5_mark_56 rfl rfl ?_
        refine g_get C 5 ix_5 0 _ rfl rfl 0 (by decide) wm_107 rfl (.ref o_first) rfl dX5_mark_57 ?_
        refine g_iload_n C 3 3 x3 dX5_mark_60 rfl rfl ?_
        refine g_iload_n C 2 2 x2 dX5_mark_61 rfl rfl ?_
        obtain ⟨hi6, h⟩ := h
        refine g_iast C 1 0 cI 360 v_first rfl rfl hi6 dX5_mark_62 [(o, .inr (5, [.ref o_first, .ref o_last, .int v_ticks, .int v_runs])), (o_first, .inl (cI, 360, .inl (upd v_first (ix x3) x2))), (o_last, .inl (cI, 360, .inl v_last)), (o_a1, .inr (8, [.ref o_a1_levels, .int v_a1_ticks])), (o_a1_levels, .inl (cI, 360, .inl v_a1_levels))] rfl ?_
        refine g_iinc C 3 x3 (x3 + (1 : Int32)) [(3, .int (x3 + (1 : Int32))), (0, .ref o), (1, .ref o_a1), (2, .int x2)] dX5_mark_63 rfl rfl (by decide) rfl ?_
        refine g_goto C 17 dX5_mark_66 (by decide) ?_
        refine g_lv [1, 2, 3, 0] rfl ?_
        exact ih17  x2 (x3 + (1 : Int32)) v_runs v_ticks (upd v_first (ix x3) x2) v_last h
      have H44 : ∀ (x3 : Int32) (v_runs : Int32) (v_ticks : Int32) (v_first : (Nat → Int32)) (v_last : (Nat → Int32)), wX5_mark_44 fu v_a1_ticks v_a1_levels Q (wX5_mark_17 fu v_a1_ticks v_a1_levels Q n17) x3 v_runs v_ticks v_first v_last → G p l e rmX5_mark s m args below meth c D A 5 0 0 Qm [(o, .inr (5, [.ref o_first, .ref o_last, .int v_ticks, .int v_runs])), (o_first, .inl (cI, 360, .inl v_first)), (o_last, .inl (cI, 360, .inl v_last)), (o_a1, .inr (8, [.ref o_a1_levels, .int v_a1_ticks])), (o_a1_levels, .inl (cI, 360, .inl v_a1_levels))] [(0, .ref o), (1, .ref o_a1), (3, .int x3)] 44 [] := by
        intro x3 v_runs v_ticks v_first v_last h
        unfold wX5_mark_44 at h
        refine g_iload_n C 3 2 x3 dX5_mark_44 rfl rfl ?_
        refine g_istore_n C [(2, .int x3), (0, .ref o), (1, .ref o_a1), (3, .int x3)] dX5_mark_45 rfl (by decide) rfl ?_
        refine g_aload_n C 0 1 o dX5_mark_46 rfl rfl ?_
        refine g_dup C dX5_mark_47 rfl ?_
        refine g_get C 5 ix_5 0 _ rfl rfl 3 (by decide) wm_110 rfl (.int v_runs) rfl dX5_mark_48 ?_
        refine g_iconst C (1 : Int32) dX5_mark_51 rfl ?_
        refine g_iadd C dX5_mark_52 ?_
        refine g_put C 5 ix_5 0 _ rfl rfl 3 (by decide) wm_110 rfl tyX5 tyX5_ok nmX5 rfl rfl rfl (Nat.le_of_ble_eq_true rfl) dX5_mark_53 [(o, .inr (5, [.ref o_first, .ref o_last, .int v_ticks, .int (v_runs + (1 : Int32))])), (o_first, .inl (cI, 360, .inl v_first)), (o_last, .inl (cI, 360, .inl v_last)), (o_a1, .inr (8, [.ref o_a1_levels, .int v_a1_ticks])), (o_a1_levels, .inl (cI, 360, .inl v_a1_levels))] rfl ?_
        refine g_lv [1, 2, 0, 3] rfl ?_
        exact H56  x3 x3 (v_runs + (1 : Int32)) v_ticks v_first v_last h
      intro x2 x3 v_runs v_ticks v_first v_last h
      unfold wX5_mark_17 at h
      refine g_iload_n C 3 3 x3 dX5_mark_17 rfl rfl ?_
      refine g_aload_n C 0 0 o dX5_mark_18 rfl rfl ?_
      refine g_get C 5 ix_5 0 _ rfl rfl 2 (by decide) wm_109 rfl (.int v_ticks) rfl dX5_mark_19 ?_
      refine g_icmp_ge C 69 dX5_mark_22 (by decide) (fun c1 => ?_) (fun c1 => ?_)
      · have h := wp_t c1 h
        refine g_lv [0] rfl ?_
        exact H69  v_runs v_ticks v_first v_last h
      have h := wp_f c1 h
      refine g_iload_n C 3 3 x3 dX5_mark_25 rfl rfl ?_
      refine g_sipush C (360 : Int32) dX5_mark_26 rfl ?_
      refine g_icmp_ge C 69 dX5_mark_29 (by decide) (fun c2 => ?_) (fun c2 => ?_)
      · have h := wp_t c2 h
        refine g_lv [0] rfl ?_
        exact H69  v_runs v_ticks v_first v_last h
      have h := wp_f c2 h
      refine g_iload_n C 3 3 x3 dX5_mark_32 rfl rfl ?_
      refine g_if_eq C 44 dX5_mark_33 (by decide) (fun c3 => ?_) (fun c3 => ?_)
      · have h := wp_t c3 h
        refine g_lv [0, 1, 3] rfl ?_
        exact H44  x3 v_runs v_ticks v_first v_last h
      have h := wp_f c3 h
      refine g_aload_n C 1 1 o_a1 dX5_mark_36 rfl rfl ?_
      refine g_iload_n C 3 3 x3 dX5_mark_37 rfl rfl ?_
      refine g_callVi0 (As := [.int x3]) (rest := []) C (c_X8_isEdge l D cI cJ cZ cW o_a1 o_a1_levels v_a1_ticks v_a1_levels x3 fu _ h) 1 gd_X5_28 rfl rfl rfl (by decide +kernel) ⟨Nat.le_of_ble_eq_true rfl, Nat.le_of_ble_eq_true rfl⟩ ⟨Nat.le_of_ble_eq_true rfl, Nat.le_of_ble_eq_true rfl⟩ 8 3 rfl rfl rfl rfl (Nat.le_of_ble_eq_true rfl) [3, 4] rfl rfl dX5_mark_38 (fun r4 h => ?_)
      obtain ⟨hzr4, h⟩ := h
      refine g_if_eq C 56 dX5_mark_41 (by decide) (fun c5 => ?_) (fun c5 => ?_)
      · have h := wp_t c5 h
        refine g_lv [0, 1, 2, 3] rfl ?_
        exact H56  x2 x3 v_runs v_ticks v_first v_last h
      have h := wp_f c5 h
      refine g_lv [0, 1, 3] rfl ?_
      exact H44  x3 v_runs v_ticks v_first v_last h
  unfold wp_X5_mark at h
  refine g_aload_n C 0 0 o dX5_mark_0 rfl rfl ?_
  refine g_aload_n C 1 1 o_a1 dX5_mark_1 rfl rfl ?_
  refine g_getN C 8 ix_8 3 _ rfl rfl 1 (by decide) 1 rfl rfl (.int v_a1_ticks) rfl dX5_mark_2 ?_
  refine g_put C 5 ix_5 0 _ rfl rfl 2 (by decide) wm_109 rfl tyX5 tyX5_ok nmX5 rfl rfl rfl (Nat.le_of_ble_eq_true rfl) dX5_mark_5 [(o, .inr (5, [.ref o_first, .ref o_last, .int v_a1_ticks, .int v_runs])), (o_first, .inl (cI, 360, .inl v_first)), (o_last, .inl (cI, 360, .inl v_last)), (o_a1, .inr (8, [.ref o_a1_levels, .int v_a1_ticks])), (o_a1_levels, .inl (cI, 360, .inl v_a1_levels))] rfl ?_
  refine g_aload_n C 0 0 o dX5_mark_8 rfl rfl ?_
  refine g_iconst C (0 : Int32) dX5_mark_9 rfl ?_
  refine g_put C 5 ix_5 0 _ rfl rfl 3 (by decide) wm_110 rfl tyX5 tyX5_ok nmX5 rfl rfl rfl (Nat.le_of_ble_eq_true rfl) dX5_mark_10 [(o, .inr (5, [.ref o_first, .ref o_last, .int v_a1_ticks, .int (0 : Int32)])), (o_first, .inl (cI, 360, .inl v_first)), (o_last, .inl (cI, 360, .inl v_last)), (o_a1, .inr (8, [.ref o_a1_levels, .int v_a1_ticks])), (o_a1_levels, .inl (cI, 360, .inl v_a1_levels))] rfl ?_
  refine g_iconst C (0 : Int32) dX5_mark_13 rfl ?_
  refine g_istore_n C [(2, .int (0 : Int32)), (0, .ref o), (1, .ref o_a1)] dX5_mark_14 rfl (by decide) rfl ?_
  refine g_iconst C (0 : Int32) dX5_mark_15 rfl ?_
  refine g_istore_n C [(3, .int (0 : Int32)), (2, .int (0 : Int32)), (0, .ref o), (1, .ref o_a1)] dX5_mark_16 rfl (by decide) rfl ?_
  refine g_lv [2, 3, 1, 0] rfl ?_
  exact H17 fu  (0 : Int32) (0 : Int32) (0 : Int32) v_a1_ticks v_first v_last h
abbrev rmX5_nextEdge : Room := { frames := 0, cells := 0, slots := 0, locals := 0 }
def wX5_nextEdge_27 (fu : Nat) (v_ticks : Int32) (v_last : (Nat → Int32)) (x1 : Int32) (Q : Int32 → Prop) (k0 : Int32) : Prop := (if v_ticks ≤ k0 then Q (-9 : Int32) else Q k0)
def wX5_nextEdge_23 (fu : Nat) (v_ticks : Int32) (v_last : (Nat → Int32)) (x1 : Int32) (Q : Int32 → Prop)  : Prop := wX5_nextEdge_27 fu v_ticks v_last x1 Q v_ticks
def wp_X5_nextEdge (fu : Nat) (v_ticks : Int32) (v_last : (Nat → Int32)) (x1 : Int32) (Q : Int32 → Prop) : Prop := (if x1 < 0 then wX5_nextEdge_23 fu v_ticks v_last x1 Q  else (if v_ticks ≤ x1 then wX5_nextEdge_23 fu v_ticks v_last x1 Q  else (vp_in x1 360 ∧ wX5_nextEdge_27 fu v_ticks v_last x1 Q ((v_last (ix x1)) + (1 : Int32)))))
set_option maxHeartbeats 4000000 in
set_option maxRecDepth 100000 in
theorem c_X5_nextEdge (l : Launch) (D : va_G) (cI cJ cZ cW : ClassId) (o o_first o_last : Nat) (v_ticks : Int32) (v_runs : Int32) (v_last : (Nat → Int32)) (x1 : Int32) (fu : Nat) (Q : Int32 → Prop) (h : wp_X5_nextEdge fu v_ticks v_last x1 Q) : CtI l yX5_nextEdge wkX5_nextEdge rmX5_nextEdge D (tys4 cI cJ cZ cW) [.ref o, .int x1] [(o, .inr (5, [.ref o_first, .ref o_last, .int v_ticks, .int v_runs])), (o_last, .inl (cI, 360, .inl v_last))] (fun (r : Int32) (u : Unit) => Q r ) (fun (_ : Unit) => [(o, .inr (5, [.ref o_first, .ref o_last, .int v_ticks, .int v_runs])), (o_last, .inl (cI, 360, .inl v_last))]) := by
  refine CtI.of (S := Unit) (y := yX5_nextEdge) (Tc := wkX5_nextEdge) (rm := rmX5_nextEdge) (D := D) (tys := tys4 cI cJ cZ cW) (av := [.ref o, .int x1]) (wc := [(o, .inr (5, [.ref o_first, .ref o_last, .int v_ticks, .int v_runs])), (o_last, .inl (cI, 360, .inl v_last))]) (post := (fun (r : Int32) (u : Unit) => Q r )) (w1 := (fun (_ : Unit) => [(o, .inr (5, [.ref o_first, .ref o_last, .int v_ticks, .int v_runs])), (o_last, .inl (cI, 360, .inl v_last))])) (cc := cX5_nextEdge) (maxL := 3) RX5 rfl (by decide +kernel) rfl rfl [(0, .ref o), (1, .int x1)] rfl ?_
  intro p e s m args below meth c A Qm C hret
  have H27 : ∀ (k0 : Int32), wX5_nextEdge_27 fu v_ticks v_last x1 Q k0 → G p l e rmX5_nextEdge s m args below meth c D A 3 0 0 Qm [(o, .inr (5, [.ref o_first, .ref o_last, .int v_ticks, .int v_runs])), (o_last, .inl (cI, 360, .inl v_last))] [(0, .ref o)] 27 [.int k0] := by
    intro k0 h
    unfold wX5_nextEdge_27 at h
    refine g_istore_n C [(2, .int k0), (0, .ref o)] dX5_nextEdge_27 rfl (by decide) rfl ?_
    refine g_iload_n C 2 0 k0 dX5_nextEdge_28 rfl rfl ?_
    refine g_aload_n C 0 1 o dX5_nextEdge_29 rfl rfl ?_
    refine g_get C 5 ix_5 0 _ rfl rfl 2 (by decide) wm_109 rfl (.int v_ticks) rfl dX5_nextEdge_30 ?_
    refine g_icmp_ge C 40 dX5_nextEdge_33 (by decide) (fun c4 => ?_) (fun c4 => ?_)
    · have h := wp_t c4 h
      refine g_bipush C (-9 : Int32) dX5_nextEdge_40 rfl ?_
      exact hret _ () _ _ _ dX5_nextEdge_42 h rfl
    have h := wp_f c4 h
    refine g_iload_n C 2 0 k0 dX5_nextEdge_36 rfl rfl ?_
    refine g_goto C 42 dX5_nextEdge_37 (by decide) ?_
    exact hret _ () _ _ _ dX5_nextEdge_42 h rfl
  have H23 : wX5_nextEdge_23 fu v_ticks v_last x1 Q  → G p l e rmX5_nextEdge s m args below meth c D A 3 0 0 Qm [(o, .inr (5, [.ref o_first, .ref o_last, .int v_ticks, .int v_runs])), (o_last, .inl (cI, 360, .inl v_last))] [(0, .ref o)] 23 [] := by
    intro  h
    unfold wX5_nextEdge_23 at h
    refine g_aload_n C 0 0 o dX5_nextEdge_23 rfl rfl ?_
    refine g_get C 5 ix_5 0 _ rfl rfl 2 (by decide) wm_109 rfl (.int v_ticks) rfl dX5_nextEdge_24 ?_
    refine g_lv [0] rfl ?_
    exact H27  v_ticks h
  unfold wp_X5_nextEdge at h
  refine g_iload_n C 1 1 x1 dX5_nextEdge_0 rfl rfl ?_
  refine g_if_lt C 23 dX5_nextEdge_1 (by decide) (fun c1 => ?_) (fun c1 => ?_)
  · have h := wp_t c1 h
    refine g_lv [0] rfl ?_
    exact H23   h
  have h := wp_f c1 h
  refine g_iload_n C 1 1 x1 dX5_nextEdge_4 rfl rfl ?_
  refine g_aload_n C 0 0 o dX5_nextEdge_5 rfl rfl ?_
  refine g_get C 5 ix_5 0 _ rfl rfl 2 (by decide) wm_109 rfl (.int v_ticks) rfl dX5_nextEdge_6 ?_
  refine g_icmp_ge C 23 dX5_nextEdge_9 (by decide) (fun c2 => ?_) (fun c2 => ?_)
  · have h := wp_t c2 h
    refine g_lv [0] rfl ?_
    exact H23   h
  have h := wp_f c2 h
  refine g_aload_n C 0 0 o dX5_nextEdge_12 rfl rfl ?_
  refine g_get C 5 ix_5 0 _ rfl rfl 1 (by decide) wm_108 rfl (.ref o_last) rfl dX5_nextEdge_13 ?_
  refine g_iload_n C 1 1 x1 dX5_nextEdge_16 rfl rfl ?_
  obtain ⟨hi3, h⟩ := h
  refine g_iald C 1 0 cI 360 v_last rfl rfl hi3 dX5_nextEdge_17 ?_
  refine g_iconst C (1 : Int32) dX5_nextEdge_18 rfl ?_
  refine g_iadd C dX5_nextEdge_19 ?_
  refine g_goto C 27 dX5_nextEdge_20 (by decide) ?_
  refine g_lv [0] rfl ?_
  exact H27  ((v_last (ix x1)) + (1 : Int32)) h
abbrev rmX5_inset : Room := { frames := 0, cells := 0, slots := 0, locals := 0 }
def wp_X5_inset (fu : Nat) (v_ticks : Int32) (v_first : (Nat → Int32)) (v_last : (Nat → Int32)) (x1 : Int32) (Q : Int32 → Prop) : Prop := (if x1 < 0 then Q (0 : Int32) else (if x1 < v_ticks then (vp_in x1 360 ∧ (∀ y4 : Int32, y4 = (x1 - (v_first (ix x1))) → (vp_in x1 360 ∧ (∀ y6 : Int32, y6 = ((v_last (ix x1)) - x1) → (if y6 ≤ y4 then Q y6 else Q y4))))) else Q (0 : Int32)))
set_option maxHeartbeats 4000000 in
set_option maxRecDepth 100000 in
theorem c_X5_inset (l : Launch) (D : va_G) (cI cJ cZ cW : ClassId) (o o_first o_last : Nat) (v_ticks : Int32) (v_runs : Int32) (v_first : (Nat → Int32)) (v_last : (Nat → Int32)) (x1 : Int32) (fu : Nat) (Q : Int32 → Prop) (h : wp_X5_inset fu v_ticks v_first v_last x1 Q) : CtI l yX5_inset wkX5_inset rmX5_inset D (tys4 cI cJ cZ cW) [.ref o, .int x1] [(o, .inr (5, [.ref o_first, .ref o_last, .int v_ticks, .int v_runs])), (o_first, .inl (cI, 360, .inl v_first)), (o_last, .inl (cI, 360, .inl v_last))] (fun (r : Int32) (u : Unit) => Q r ) (fun (_ : Unit) => [(o, .inr (5, [.ref o_first, .ref o_last, .int v_ticks, .int v_runs])), (o_first, .inl (cI, 360, .inl v_first)), (o_last, .inl (cI, 360, .inl v_last))]) := by
  refine CtI.of (S := Unit) (y := yX5_inset) (Tc := wkX5_inset) (rm := rmX5_inset) (D := D) (tys := tys4 cI cJ cZ cW) (av := [.ref o, .int x1]) (wc := [(o, .inr (5, [.ref o_first, .ref o_last, .int v_ticks, .int v_runs])), (o_first, .inl (cI, 360, .inl v_first)), (o_last, .inl (cI, 360, .inl v_last))]) (post := (fun (r : Int32) (u : Unit) => Q r )) (w1 := (fun (_ : Unit) => [(o, .inr (5, [.ref o_first, .ref o_last, .int v_ticks, .int v_runs])), (o_first, .inl (cI, 360, .inl v_first)), (o_last, .inl (cI, 360, .inl v_last))])) (cc := cX5_inset) (maxL := 4) RX5 rfl (by decide +kernel) rfl rfl [(0, .ref o), (1, .int x1)] rfl ?_
  intro p e s m args below meth c A Qm C hret
  unfold wp_X5_inset at h
  refine g_iload_n C 1 1 x1 dX5_inset_0 rfl rfl ?_
  refine g_if_lt C 12 dX5_inset_1 (by decide) (fun c1 => ?_) (fun c1 => ?_)
  · have h := wp_t c1 h
    refine g_iconst C (0 : Int32) dX5_inset_12 rfl ?_
    exact hret _ () _ _ _ dX5_inset_13 h rfl
  have h := wp_f c1 h
  refine g_iload_n C 1 1 x1 dX5_inset_4 rfl rfl ?_
  refine g_aload_n C 0 0 o dX5_inset_5 rfl rfl ?_
  refine g_get C 5 ix_5 0 _ rfl rfl 2 (by decide) wm_109 rfl (.int v_ticks) rfl dX5_inset_6 ?_
  refine g_icmp_lt C 14 dX5_inset_9 (by decide) (fun c2 => ?_) (fun c2 => ?_)
  rotate_left
  · have h := wp_f c2 h
    refine g_iconst C (0 : Int32) dX5_inset_12 rfl ?_
    exact hret _ () _ _ _ dX5_inset_13 h rfl
  have h := wp_t c2 h
  refine g_iload_n C 1 1 x1 dX5_inset_14 rfl rfl ?_
  refine g_aload_n C 0 0 o dX5_inset_15 rfl rfl ?_
  refine g_get C 5 ix_5 0 _ rfl rfl 0 (by decide) wm_107 rfl (.ref o_first) rfl dX5_inset_16 ?_
  refine g_iload_n C 1 1 x1 dX5_inset_19 rfl rfl ?_
  obtain ⟨hi3, h⟩ := h
  refine g_iald C 1 0 cI 360 v_first rfl rfl hi3 dX5_inset_20 ?_
  refine g_isub C dX5_inset_21 ?_
  refine g_topi (fun y4 ey4 => ?_)
  have h := h y4 ey4
  refine g_istore_n C [(2, .int y4), (0, .ref o), (1, .int x1)] dX5_inset_22 rfl (by decide) rfl ?_
  refine g_aload_n C 0 1 o dX5_inset_23 rfl rfl ?_
  refine g_get C 5 ix_5 0 _ rfl rfl 1 (by decide) wm_108 rfl (.ref o_last) rfl dX5_inset_24 ?_
  refine g_iload_n C 1 2 x1 dX5_inset_27 rfl rfl ?_
  obtain ⟨hi5, h⟩ := h
  refine g_iald C 2 0 cI 360 v_last rfl rfl hi5 dX5_inset_28 ?_
  refine g_iload_n C 1 2 x1 dX5_inset_29 rfl rfl ?_
  refine g_isub C dX5_inset_30 ?_
  refine g_topi (fun y6 ey6 => ?_)
  have h := h y6 ey6
  refine g_istore_n C [(3, .int y6), (2, .int y4), (0, .ref o), (1, .int x1)] dX5_inset_31 rfl (by decide) rfl ?_
  refine g_iload_n C 2 1 y4 dX5_inset_32 rfl rfl ?_
  refine g_iload_n C 3 0 y6 dX5_inset_33 rfl rfl ?_
  refine g_icmp_ge C 41 dX5_inset_34 (by decide) (fun c7 => ?_) (fun c7 => ?_)
  · have h := wp_t c7 h
    refine g_iload_n C 3 0 y6 dX5_inset_41 rfl rfl ?_
    exact hret _ () _ _ _ dX5_inset_42 h rfl
  have h := wp_f c7 h
  refine g_iload_n C 2 1 y4 dX5_inset_37 rfl rfl ?_
  refine g_goto C 42 dX5_inset_38 (by decide) ?_
  exact hret _ () _ _ _ dX5_inset_42 h rfl
abbrev rmX5_edges : Room := { frames := 1, cells := 0, slots := 0, locals := 21 }
def wp_X5_edges (fu : Nat) (v_runs : Int32) (Q : Int32 → Prop) : Prop := Q (imx (0 : Int32) (v_runs - (1 : Int32)))
set_option maxHeartbeats 4000000 in
set_option maxRecDepth 100000 in
theorem c_X5_edges (l : Launch) (D : va_G) (cI cJ cZ cW : ClassId) (o o_first o_last : Nat) (v_ticks : Int32) (v_runs : Int32) (fu : Nat) (Q : Int32 → Prop) (h : wp_X5_edges fu v_runs Q) : CtI l yX5_edges wkX5_edges rmX5_edges D (tys4 cI cJ cZ cW) [.ref o] [(o, .inr (5, [.ref o_first, .ref o_last, .int v_ticks, .int v_runs]))] (fun (r : Int32) (u : Unit) => Q r ) (fun (_ : Unit) => [(o, .inr (5, [.ref o_first, .ref o_last, .int v_ticks, .int v_runs]))]) := by
  refine CtI.of (S := Unit) (y := yX5_edges) (Tc := wkX5_edges) (rm := rmX5_edges) (D := D) (tys := tys4 cI cJ cZ cW) (av := [.ref o]) (wc := [(o, .inr (5, [.ref o_first, .ref o_last, .int v_ticks, .int v_runs]))]) (post := (fun (r : Int32) (u : Unit) => Q r )) (w1 := (fun (_ : Unit) => [(o, .inr (5, [.ref o_first, .ref o_last, .int v_ticks, .int v_runs]))])) (cc := cX5_edges) (maxL := 1) RX5 rfl (by decide +kernel) rfl rfl [(0, .ref o)] rfl ?_
  intro p e s m args below meth c A Qm C hret
  unfold wp_X5_edges at h
  refine g_iconst C (0 : Int32) dX5_edges_0 rfl ?_
  refine g_aload_n C 0 0 o dX5_edges_1 rfl rfl ?_
  refine g_get C 5 ix_5 0 _ rfl rfl 3 (by decide) wm_110 rfl (.int v_runs) rfl dX5_edges_2 ?_
  refine g_iconst C (1 : Int32) dX5_edges_5 rfl ?_
  refine g_isub C dX5_edges_6 ?_
  refine g_max C rfl rfl (Nat.zero_le _) (Nat.zero_le _) wm_268 wm_228 wm_229 wm_230 dX5_edges_7 ?_
  exact hret _ () _ _ _ dX5_edges_10 h rfl
abbrev rmX5_lengthFrom : Room := { frames := 0, cells := 0, slots := 0, locals := 0 }
def wp_X5_lengthFrom (fu : Nat) (v_ticks : Int32) (v_last : (Nat → Int32)) (x1 : Int32) (Q : Int32 → Prop) : Prop := (if x1 < 0 then Q (-9 : Int32) else (if v_ticks ≤ x1 then Q (-9 : Int32) else (vp_in x1 360 ∧ Q (((v_last (ix x1)) - x1) + (1 : Int32)))))
set_option maxHeartbeats 4000000 in
set_option maxRecDepth 100000 in
theorem c_X5_lengthFrom (l : Launch) (D : va_G) (cI cJ cZ cW : ClassId) (o o_first o_last : Nat) (v_ticks : Int32) (v_runs : Int32) (v_last : (Nat → Int32)) (x1 : Int32) (fu : Nat) (Q : Int32 → Prop) (h : wp_X5_lengthFrom fu v_ticks v_last x1 Q) : CtI l yX5_lengthFrom wkX5_lengthFrom rmX5_lengthFrom D (tys4 cI cJ cZ cW) [.ref o, .int x1] [(o, .inr (5, [.ref o_first, .ref o_last, .int v_ticks, .int v_runs])), (o_last, .inl (cI, 360, .inl v_last))] (fun (r : Int32) (u : Unit) => Q r ) (fun (_ : Unit) => [(o, .inr (5, [.ref o_first, .ref o_last, .int v_ticks, .int v_runs])), (o_last, .inl (cI, 360, .inl v_last))]) := by
  refine CtI.of (S := Unit) (y := yX5_lengthFrom) (Tc := wkX5_lengthFrom) (rm := rmX5_lengthFrom) (D := D) (tys := tys4 cI cJ cZ cW) (av := [.ref o, .int x1]) (wc := [(o, .inr (5, [.ref o_first, .ref o_last, .int v_ticks, .int v_runs])), (o_last, .inl (cI, 360, .inl v_last))]) (post := (fun (r : Int32) (u : Unit) => Q r )) (w1 := (fun (_ : Unit) => [(o, .inr (5, [.ref o_first, .ref o_last, .int v_ticks, .int v_runs])), (o_last, .inl (cI, 360, .inl v_last))])) (cc := cX5_lengthFrom) (maxL := 2) RX5 rfl (by decide +kernel) rfl rfl [(0, .ref o), (1, .int x1)] rfl ?_
  intro p e s m args below meth c A Qm C hret
  unfold wp_X5_lengthFrom at h
  refine g_iload_n C 1 1 x1 dX5_lengthFrom_0 rfl rfl ?_
  refine g_if_lt C 25 dX5_lengthFrom_1 (by decide) (fun c1 => ?_) (fun c1 => ?_)
  · have h := wp_t c1 h
    refine g_bipush C (-9 : Int32) dX5_lengthFrom_25 rfl ?_
    exact hret _ () _ _ _ dX5_lengthFrom_27 h rfl
  have h := wp_f c1 h
  refine g_iload_n C 1 1 x1 dX5_lengthFrom_4 rfl rfl ?_
  refine g_aload_n C 0 0 o dX5_lengthFrom_5 rfl rfl ?_
  refine g_get C 5 ix_5 0 _ rfl rfl 2 (by decide) wm_109 rfl (.int v_ticks) rfl dX5_lengthFrom_6 ?_
  refine g_icmp_ge C 25 dX5_lengthFrom_9 (by decide) (fun c2 => ?_) (fun c2 => ?_)
  · have h := wp_t c2 h
    refine g_bipush C (-9 : Int32) dX5_lengthFrom_25 rfl ?_
    exact hret _ () _ _ _ dX5_lengthFrom_27 h rfl
  have h := wp_f c2 h
  refine g_aload_n C 0 0 o dX5_lengthFrom_12 rfl rfl ?_
  refine g_get C 5 ix_5 0 _ rfl rfl 1 (by decide) wm_108 rfl (.ref o_last) rfl dX5_lengthFrom_13 ?_
  refine g_iload_n C 1 1 x1 dX5_lengthFrom_16 rfl rfl ?_
  obtain ⟨hi3, h⟩ := h
  refine g_iald C 1 0 cI 360 v_last rfl rfl hi3 dX5_lengthFrom_17 ?_
  refine g_iload_n C 1 1 x1 dX5_lengthFrom_18 rfl rfl ?_
  refine g_isub C dX5_lengthFrom_19 ?_
  refine g_iconst C (1 : Int32) dX5_lengthFrom_20 rfl ?_
  refine g_iadd C dX5_lengthFrom_21 ?_
  refine g_goto C 27 dX5_lengthFrom_22 (by decide) ?_
  exact hret _ () _ _ _ dX5_lengthFrom_27 h rfl
abbrev rmX5_ticksOfRun : Room := { frames := 1, cells := 0, slots := 0, locals := 22 }
def wX5_ticksOfRun_19 (fu : Nat) (v_runs : Int32) (v_ticks : Int32) (v_last : (Nat → Int32)) (x1 : Int32) (Q : Int32 → Prop) : Nat → Int32 → Int32 → Prop
  | 0, _, _ => False
  | n0 + 1, x2, x3 => (if x1 ≤ x3 then wp_X5_lengthFrom fu v_ticks v_last x2 (fun (r4 : Int32) => Q r4) else wp_X5_nextEdge fu v_ticks v_last x2 (fun (r5 : Int32) => (wX5_ticksOfRun_19 fu v_runs v_ticks v_last x1 Q n0) r5 (x3 + (1 : Int32))))
def wp_X5_ticksOfRun (fu : Nat) (v_runs : Int32) (v_ticks : Int32) (v_last : (Nat → Int32)) (x1 : Int32) (Q : Int32 → Prop) : Prop := (if x1 < 0 then Q (-9 : Int32) else (if x1 < v_runs then wX5_ticksOfRun_19 fu v_runs v_ticks v_last x1 Q fu (0 : Int32) (0 : Int32) else Q (-9 : Int32)))
set_option maxHeartbeats 4000000 in
set_option maxRecDepth 100000 in
theorem c_X5_ticksOfRun (l : Launch) (D : va_G) (cI cJ cZ cW : ClassId) (o o_first o_last : Nat) (v_ticks : Int32) (v_runs : Int32) (v_last : (Nat → Int32)) (x1 : Int32) (fu : Nat) (Q : Int32 → Prop) (h : wp_X5_ticksOfRun fu v_runs v_ticks v_last x1 Q) : CtI l yX5_ticksOfRun wkX5_ticksOfRun rmX5_ticksOfRun D (tys4 cI cJ cZ cW) [.ref o, .int x1] [(o, .inr (5, [.ref o_first, .ref o_last, .int v_ticks, .int v_runs])), (o_last, .inl (cI, 360, .inl v_last))] (fun (r : Int32) (u : Unit) => Q r ) (fun (_ : Unit) => [(o, .inr (5, [.ref o_first, .ref o_last, .int v_ticks, .int v_runs])), (o_last, .inl (cI, 360, .inl v_last))]) := by
  refine CtI.of (S := Unit) (y := yX5_ticksOfRun) (Tc := wkX5_ticksOfRun) (rm := rmX5_ticksOfRun) (D := D) (tys := tys4 cI cJ cZ cW) (av := [.ref o, .int x1]) (wc := [(o, .inr (5, [.ref o_first, .ref o_last, .int v_ticks, .int v_runs])), (o_last, .inl (cI, 360, .inl v_last))]) (post := (fun (r : Int32) (u : Unit) => Q r )) (w1 := (fun (_ : Unit) => [(o, .inr (5, [.ref o_first, .ref o_last, .int v_ticks, .int v_runs])), (o_last, .inl (cI, 360, .inl v_last))])) (cc := cX5_ticksOfRun) (maxL := 4) RX5 rfl (by decide +kernel) rfl rfl [(0, .ref o), (1, .int x1)] rfl ?_
  intro p e s m args below meth c A Qm C hret
  have H19 : ∀ (n19 : Nat) (x2 : Int32) (x3 : Int32), wX5_ticksOfRun_19 fu v_runs v_ticks v_last x1 Q n19 x2 x3 → G p l e rmX5_ticksOfRun s m args below meth c D A 4 0 0 Qm [(o, .inr (5, [.ref o_first, .ref o_last, .int v_ticks, .int v_runs])), (o_last, .inl (cI, 360, .inl v_last))] [(0, .ref o), (1, .int x1), (2, .int x2), (3, .int x3)] 19 [] := by
    intro n19
    induction n19 with
    | zero => intro x2 x3 h; exact False.elim h
    | succ n19 ih19 =>
      intro x2 x3 h
      unfold wX5_ticksOfRun_19 at h
      refine g_iload_n C 3 3 x3 dX5_ticksOfRun_19 rfl rfl ?_
      refine g_iload_n C 1 1 x1 dX5_ticksOfRun_20 rfl rfl ?_
      refine g_icmp_ge C 36 dX5_ticksOfRun_21 (by decide) (fun c3 => ?_) (fun c3 => ?_)
      · have h := wp_t c3 h
        refine g_aload_n C 0 0 o dX5_ticksOfRun_36 rfl rfl ?_
        refine g_iload_n C 2 2 x2 dX5_ticksOfRun_37 rfl rfl ?_
        refine g_callVi0 (As := [.int x2]) (rest := []) C (c_X5_lengthFrom l D cI cJ cZ cW o o_first o_last v_ticks v_runs v_last x2 fu _ h) 1 gd_X5_42 rfl rfl rfl (by decide +kernel) ⟨Nat.le_of_ble_eq_true rfl, Nat.le_of_ble_eq_true rfl⟩ ⟨Nat.le_of_ble_eq_true rfl, Nat.le_of_ble_eq_true rfl⟩ 5 0 rfl rfl rfl rfl (Nat.le_of_ble_eq_true rfl) [0, 1] rfl rfl dX5_ticksOfRun_38 (fun r4 h => ?_)
        exact hret _ () _ _ _ dX5_ticksOfRun_41 h rfl
      have h := wp_f c3 h
      refine g_aload_n C 0 0 o dX5_ticksOfRun_24 rfl rfl ?_
      refine g_iload_n C 2 2 x2 dX5_ticksOfRun_25 rfl rfl ?_
      refine g_callVi0 (As := [.int x2]) (rest := []) C (c_X5_nextEdge l D cI cJ cZ cW o o_first o_last v_ticks v_runs v_last x2 fu _ h) 1 gd_X5_38 rfl rfl rfl (by decide +kernel) ⟨Nat.le_of_ble_eq_true rfl, Nat.le_of_ble_eq_true rfl⟩ ⟨Nat.le_of_ble_eq_true rfl, Nat.le_of_ble_eq_true rfl⟩ 5 0 rfl rfl rfl rfl (Nat.le_of_ble_eq_true rfl) [0, 1] rfl rfl dX5_ticksOfRun_26 (fun r5 h => ?_)
      refine g_istore_n C [(2, .int r5), (0, .ref o), (1, .int x1), (3, .int x3)] dX5_ticksOfRun_29 rfl (by decide) rfl ?_
      refine g_iinc C 3 x3 (x3 + (1 : Int32)) [(3, .int (x3 + (1 : Int32))), (2, .int r5), (0, .ref o), (1, .int x1)] dX5_ticksOfRun_30 rfl rfl (by decide) rfl ?_
      refine g_goto C 19 dX5_ticksOfRun_33 (by decide) ?_
      refine g_lv [2, 3, 1, 0] rfl ?_
      exact ih19  r5 (x3 + (1 : Int32)) h
  unfold wp_X5_ticksOfRun at h
  refine g_iload_n C 1 1 x1 dX5_ticksOfRun_0 rfl rfl ?_
  refine g_if_lt C 12 dX5_ticksOfRun_1 (by decide) (fun c1 => ?_) (fun c1 => ?_)
  · have h := wp_t c1 h
    refine g_bipush C (-9 : Int32) dX5_ticksOfRun_12 rfl ?_
    exact hret _ () _ _ _ dX5_ticksOfRun_14 h rfl
  have h := wp_f c1 h
  refine g_iload_n C 1 1 x1 dX5_ticksOfRun_4 rfl rfl ?_
  refine g_aload_n C 0 0 o dX5_ticksOfRun_5 rfl rfl ?_
  refine g_get C 5 ix_5 0 _ rfl rfl 3 (by decide) wm_110 rfl (.int v_runs) rfl dX5_ticksOfRun_6 ?_
  refine g_icmp_lt C 15 dX5_ticksOfRun_9 (by decide) (fun c2 => ?_) (fun c2 => ?_)
  rotate_left
  · have h := wp_f c2 h
    refine g_bipush C (-9 : Int32) dX5_ticksOfRun_12 rfl ?_
    exact hret _ () _ _ _ dX5_ticksOfRun_14 h rfl
  have h := wp_t c2 h
  refine g_iconst C (0 : Int32) dX5_ticksOfRun_15 rfl ?_
  refine g_istore_n C [(2, .int (0 : Int32)), (0, .ref o), (1, .int x1)] dX5_ticksOfRun_16 rfl (by decide) rfl ?_
  refine g_iconst C (0 : Int32) dX5_ticksOfRun_17 rfl ?_
  refine g_istore_n C [(3, .int (0 : Int32)), (2, .int (0 : Int32)), (0, .ref o), (1, .int x1)] dX5_ticksOfRun_18 rfl (by decide) rfl ?_
  refine g_lv [2, 3, 1, 0] rfl ?_
  exact H19 fu  (0 : Int32) (0 : Int32) h
abbrev rmX5_offOfRun : Room := { frames := 1, cells := 0, slots := 0, locals := 21 }
def wp_X5_offOfRun (fu : Nat) (x0 : Int32) (x1 : Int32) (Q : Int32 → Prop) : Prop := (if x0 < x1 then Q (x1 - x0) else (if (1 : Int32) ≤ x1 then (¬ x1 = 0 ∧ (∀ y4 : Int32, y4 = (irm x0 x1) → Q (imn y4 (x1 - y4)))) else Q (x1 - x0)))
set_option maxHeartbeats 4000000 in
set_option maxRecDepth 100000 in
theorem c_X5_offOfRun (l : Launch) (D : va_G) (cI cJ cZ cW : ClassId) (x0 : Int32) (x1 : Int32) (fu : Nat) (Q : Int32 → Prop) (h : wp_X5_offOfRun fu x0 x1 Q) : CtI l yX5_offOfRun wkX5_offOfRun rmX5_offOfRun D (tys4 cI cJ cZ cW) [.int x0, .int x1] [] (fun (r : Int32) (u : Unit) => Q r ) (fun (_ : Unit) => []) := by
  refine CtI.of (S := Unit) (y := yX5_offOfRun) (Tc := wkX5_offOfRun) (rm := rmX5_offOfRun) (D := D) (tys := tys4 cI cJ cZ cW) (av := [.int x0, .int x1]) (wc := []) (post := (fun (r : Int32) (u : Unit) => Q r )) (w1 := (fun (_ : Unit) => [])) (cc := cX5_offOfRun) (maxL := 3) RX5 rfl (by decide +kernel) rfl rfl [(0, .int x0), (1, .int x1)] rfl ?_
  intro p e s m args below meth c A Qm C hret
  unfold wp_X5_offOfRun at h
  refine g_iload_n C 0 0 x0 dX5_offOfRun_0 rfl rfl ?_
  refine g_iload_n C 1 1 x1 dX5_offOfRun_1 rfl rfl ?_
  refine g_icmp_lt C 10 dX5_offOfRun_2 (by decide) (fun c1 => ?_) (fun c1 => ?_)
  · have h := wp_t c1 h
    refine g_iload_n C 1 1 x1 dX5_offOfRun_10 rfl rfl ?_
    refine g_iload_n C 0 0 x0 dX5_offOfRun_11 rfl rfl ?_
    refine g_isub C dX5_offOfRun_12 ?_
    exact hret _ () _ _ _ dX5_offOfRun_13 h rfl
  have h := wp_f c1 h
  refine g_iload_n C 1 1 x1 dX5_offOfRun_5 rfl rfl ?_
  refine g_iconst C (1 : Int32) dX5_offOfRun_6 rfl ?_
  refine g_icmp_ge C 14 dX5_offOfRun_7 (by decide) (fun c2 => ?_) (fun c2 => ?_)
  rotate_left
  · have h := wp_f c2 h
    refine g_iload_n C 1 1 x1 dX5_offOfRun_10 rfl rfl ?_
    refine g_iload_n C 0 0 x0 dX5_offOfRun_11 rfl rfl ?_
    refine g_isub C dX5_offOfRun_12 ?_
    exact hret _ () _ _ _ dX5_offOfRun_13 h rfl
  have h := wp_t c2 h
  refine g_iload_n C 0 0 x0 dX5_offOfRun_14 rfl rfl ?_
  refine g_iload_n C 1 1 x1 dX5_offOfRun_15 rfl rfl ?_
  obtain ⟨hn3, h⟩ := h
  refine g_irem C hn3 dX5_offOfRun_16 ?_
  refine g_topi (fun y4 ey4 => ?_)
  have h := h y4 ey4
  refine g_istore_n C [(2, .int y4), (0, .int x0), (1, .int x1)] dX5_offOfRun_17 rfl (by decide) rfl ?_
  refine g_iload_n C 2 0 y4 dX5_offOfRun_18 rfl rfl ?_
  refine g_iload_n C 1 2 x1 dX5_offOfRun_19 rfl rfl ?_
  refine g_iload_n C 2 0 y4 dX5_offOfRun_20 rfl rfl ?_
  refine g_isub C dX5_offOfRun_21 ?_
  refine g_min C rfl rfl (Nat.zero_le _) (Nat.zero_le _) wm_364 wm_299 wm_229 wm_300 dX5_offOfRun_22 ?_
  exact hret _ () _ _ _ dX5_offOfRun_25 h rfl
abbrev rmX5_offBy : Room := { frames := 2, cells := 0, slots := 0, locals := 43 }
def wX5_offBy_11 (fu : Nat) (v_runs : Int32) (v_ticks : Int32) (v_last : (Nat → Int32)) (x1 : Int32) (Q : Int32 → Prop) : Nat → Int32 → Int32 → Int32 → Prop
  | 0, _, _, _ => False
  | n0 + 1, x2, x3, x4 => (if (v_runs - (1 : Int32)) ≤ x4 then Q x2 else wp_X5_lengthFrom fu v_ticks v_last x3 (fun (r3 : Int32) => wp_X5_offOfRun fu r3 x1 (fun (r4 : Int32) => (∀ y5 : Int32, y5 = (x2 + r4) → wp_X5_nextEdge fu v_ticks v_last x3 (fun (r6 : Int32) => (wX5_offBy_11 fu v_runs v_ticks v_last x1 Q n0) y5 r6 (x4 + (1 : Int32)))))))
def wp_X5_offBy (fu : Nat) (v_runs : Int32) (v_ticks : Int32) (v_last : (Nat → Int32)) (x1 : Int32) (Q : Int32 → Prop) : Prop := wp_X5_nextEdge fu v_ticks v_last (0 : Int32) (fun (r1 : Int32) => wX5_offBy_11 fu v_runs v_ticks v_last x1 Q fu (0 : Int32) r1 (1 : Int32))
set_option maxHeartbeats 4000000 in
set_option maxRecDepth 100000 in
theorem c_X5_offBy (l : Launch) (D : va_G) (cI cJ cZ cW : ClassId) (o o_first o_last : Nat) (v_ticks : Int32) (v_runs : Int32) (v_last : (Nat → Int32)) (x1 : Int32) (fu : Nat) (Q : Int32 → Prop) (h : wp_X5_offBy fu v_runs v_ticks v_last x1 Q) : CtI l yX5_offBy wkX5_offBy rmX5_offBy D (tys4 cI cJ cZ cW) [.ref o, .int x1] [(o, .inr (5, [.ref o_first, .ref o_last, .int v_ticks, .int v_runs])), (o_last, .inl (cI, 360, .inl v_last))] (fun (r : Int32) (u : Unit) => Q r ) (fun (_ : Unit) => [(o, .inr (5, [.ref o_first, .ref o_last, .int v_ticks, .int v_runs])), (o_last, .inl (cI, 360, .inl v_last))]) := by
  refine CtI.of (S := Unit) (y := yX5_offBy) (Tc := wkX5_offBy) (rm := rmX5_offBy) (D := D) (tys := tys4 cI cJ cZ cW) (av := [.ref o, .int x1]) (wc := [(o, .inr (5, [.ref o_first, .ref o_last, .int v_ticks, .int v_runs])), (o_last, .inl (cI, 360, .inl v_last))]) (post := (fun (r : Int32) (u : Unit) => Q r )) (w1 := (fun (_ : Unit) => [(o, .inr (5, [.ref o_first, .ref o_last, .int v_ticks, .int v_runs])), (o_last, .inl (cI, 360, .inl v_last))])) (cc := cX5_offBy) (maxL := 5) RX5 rfl (by decide +kernel) rfl rfl [(0, .ref o), (1, .int x1)] rfl ?_
  intro p e s m args below meth c A Qm C hret
  have H11 : ∀ (n11 : Nat) (x2 : Int32) (x3 : Int32) (x4 : Int32), wX5_offBy_11 fu v_runs v_ticks v_last x1 Q n11 x2 x3 x4 → G p l e rmX5_offBy s m args below meth c D A 5 0 0 Qm [(o, .inr (5, [.ref o_first, .ref o_last, .int v_ticks, .int v_runs])), (o_last, .inl (cI, 360, .inl v_last))] [(0, .ref o), (1, .int x1), (2, .int x2), (3, .int x3), (4, .int x4)] 11 [] := by
    intro n11
    induction n11 with
    | zero => intro x2 x3 x4 h; exact False.elim h
    | succ n11 ih11 =>
      intro x2 x3 x4 h
      unfold wX5_offBy_11 at h
      refine g_iload C 4 4 x4 dX5_offBy_11 rfl ?_
      refine g_aload_n C 0 0 o dX5_offBy_13 rfl rfl ?_
      refine g_get C 5 ix_5 0 _ rfl rfl 3 (by decide) wm_110 rfl (.int v_runs) rfl dX5_offBy_14 ?_
      refine g_iconst C (1 : Int32) dX5_offBy_17 rfl ?_
      refine g_isub C dX5_offBy_18 ?_
      refine g_icmp_ge C 46 dX5_offBy_19 (by decide) (fun c2 => ?_) (fun c2 => ?_)
      · have h := wp_t c2 h
        refine g_iload_n C 2 2 x2 dX5_offBy_46 rfl rfl ?_
        exact hret _ () _ _ _ dX5_offBy_47 h rfl
      have h := wp_f c2 h
      refine g_iload_n C 2 2 x2 dX5_offBy_22 rfl rfl ?_
      refine g_aload_n C 0 0 o dX5_offBy_23 rfl rfl ?_
      refine g_iload_n C 3 3 x3 dX5_offBy_24 rfl rfl ?_
      refine g_callVi0 (As := [.int x3]) (rest := [.int x2]) C (c_X5_lengthFrom l D cI cJ cZ cW o o_first o_last v_ticks v_runs v_last x3 fu _ h) 1 gd_X5_42 rfl rfl rfl (by decide +kernel) ⟨Nat.le_of_ble_eq_true rfl, Nat.le_of_ble_eq_true rfl⟩ ⟨Nat.le_of_ble_eq_true rfl, Nat.le_of_ble_eq_true rfl⟩ 5 0 rfl rfl rfl rfl (Nat.le_of_ble_eq_true rfl) [0, 1] rfl rfl dX5_offBy_25 (fun r3 h => ?_)
      refine g_iload_n C 1 1 x1 dX5_offBy_28 rfl rfl ?_
      refine g_callSi0 (As := [.int r3, .int x1]) (rest := [.int x2]) C (c_X5_offOfRun l D cI cJ cZ cW r3 x1 fu _ h) 2 gd_X5_45 rfl rfl rfl (by decide +kernel) ⟨Nat.le_of_ble_eq_true rfl, Nat.le_of_ble_eq_true rfl⟩ ⟨Nat.le_of_ble_eq_true rfl, Nat.le_of_ble_eq_true rfl⟩ rfl rfl (Nat.le_of_ble_eq_true rfl) [] rfl rfl dX5_offBy_29 (fun r4 h => ?_)
      refine g_iadd C dX5_offBy_32 ?_
      refine g_topi (fun y5 ey5 => ?_)
      have h := h y5 ey5
      refine g_istore_n C [(2, .int y5), (0, .ref o), (1, .int x1), (3, .int x3), (4, .int x4)] dX5_offBy_33 rfl (by decide) rfl ?_
      refine g_aload_n C 0 1 o dX5_offBy_34 rfl rfl ?_
      refine g_iload_n C 3 3 x3 dX5_offBy_35 rfl rfl ?_
      refine g_callVi0 (As := [.int x3]) (rest := []) C (c_X5_nextEdge l D cI cJ cZ cW o o_first o_last v_ticks v_runs v_last x3 fu _ h) 1 gd_X5_38 rfl rfl rfl (by decide +kernel) ⟨Nat.le_of_ble_eq_true rfl, Nat.le_of_ble_eq_true rfl⟩ ⟨Nat.le_of_ble_eq_true rfl, Nat.le_of_ble_eq_true rfl⟩ 5 0 rfl rfl rfl rfl (Nat.le_of_ble_eq_true rfl) [0, 1] rfl rfl dX5_offBy_36 (fun r6 h => ?_)
      refine g_istore_n C [(3, .int r6), (2, .int y5), (0, .ref o), (1, .int x1), (4, .int x4)] dX5_offBy_39 rfl (by decide) rfl ?_
      refine g_iinc C 4 x4 (x4 + (1 : Int32)) [(4, .int (x4 + (1 : Int32))), (3, .int r6), (2, .int y5), (0, .ref o), (1, .int x1)] dX5_offBy_40 rfl rfl (by decide) rfl ?_
      refine g_goto C 11 dX5_offBy_43 (by decide) ?_
      refine g_lv [3, 4, 2, 1, 0] rfl ?_
      exact ih11  y5 r6 (x4 + (1 : Int32)) h
  unfold wp_X5_offBy at h
  refine g_iconst C (0 : Int32) dX5_offBy_0 rfl ?_
  refine g_istore_n C [(2, .int (0 : Int32)), (0, .ref o), (1, .int x1)] dX5_offBy_1 rfl (by decide) rfl ?_
  refine g_aload_n C 0 1 o dX5_offBy_2 rfl rfl ?_
  refine g_iconst C (0 : Int32) dX5_offBy_3 rfl ?_
  refine g_callVi0 (As := [.int (0 : Int32)]) (rest := []) C (c_X5_nextEdge l D cI cJ cZ cW o o_first o_last v_ticks v_runs v_last (0 : Int32) fu _ h) 1 gd_X5_38 rfl rfl rfl (by decide +kernel) ⟨Nat.le_of_ble_eq_true rfl, Nat.le_of_ble_eq_true rfl⟩ ⟨Nat.le_of_ble_eq_true rfl, Nat.le_of_ble_eq_true rfl⟩ 5 0 rfl rfl rfl rfl (Nat.le_of_ble_eq_true rfl) [0, 1] rfl rfl dX5_offBy_4 (fun r1 h => ?_)
  refine g_istore_n C [(3, .int r1), (2, .int (0 : Int32)), (0, .ref o), (1, .int x1)] dX5_offBy_7 rfl (by decide) rfl ?_
  refine g_iconst C (1 : Int32) dX5_offBy_8 rfl ?_
  refine g_istore C [(4, .int (1 : Int32)), (3, .int r1), (2, .int (0 : Int32)), (0, .ref o), (1, .int x1)] dX5_offBy_9 (by decide) rfl ?_
  refine g_lv [3, 4, 2, 1, 0] rfl ?_
  exact H11 fu  (0 : Int32) r1 (1 : Int32) h
abbrev rmX5_width : Room := { frames := 3, cells := 0, slots := 0, locals := 67 }
def wX5_width_34 (fu : Nat) (v_runs : Int32) (v_ticks : Int32) (v_last : (Nat → Int32)) (Q : Int32 → Prop) (K10 : Int32 → Int32 → Int32 → Prop) (x1 : Int32) (x2 : Int32) (x3 : Int32) : Prop := K10 x1 x2 (x3 + (1 : Int32))
def wX5_width_10 (fu : Nat) (v_runs : Int32) (v_ticks : Int32) (v_last : (Nat → Int32)) (Q : Int32 → Prop) : Nat → Int32 → Int32 → Int32 → Prop
  | 0, _, _, _ => False
  | n0 + 1, x1, x2, x3 => (if (16 : Int32) < x3 then Q x1 else wp_X5_offBy fu v_runs v_ticks v_last x3 (fun (r3 : Int32) => (if x2 < r3 then wX5_width_34 fu v_runs v_ticks v_last Q (wX5_width_10 fu v_runs v_ticks v_last Q n0) x1 x2 x3 else wX5_width_34 fu v_runs v_ticks v_last Q (wX5_width_10 fu v_runs v_ticks v_last Q n0) x3 r3 x3)))
def wp_X5_width (fu : Nat) (v_runs : Int32) (v_ticks : Int32) (v_last : (Nat → Int32)) (Q : Int32 → Prop) : Prop := wp_X5_offBy fu v_runs v_ticks v_last (1 : Int32) (fun (r1 : Int32) => wX5_width_10 fu v_runs v_ticks v_last Q fu (1 : Int32) r1 (2 : Int32))
set_option maxHeartbeats 4000000 in
set_option maxRecDepth 100000 in
theorem c_X5_width (l : Launch) (D : va_G) (cI cJ cZ cW : ClassId) (o o_first o_last : Nat) (v_ticks : Int32) (v_runs : Int32) (v_last : (Nat → Int32)) (fu : Nat) (Q : Int32 → Prop) (h : wp_X5_width fu v_runs v_ticks v_last Q) : CtI l yX5_width wkX5_width rmX5_width D (tys4 cI cJ cZ cW) [.ref o] [(o, .inr (5, [.ref o_first, .ref o_last, .int v_ticks, .int v_runs])), (o_last, .inl (cI, 360, .inl v_last))] (fun (r : Int32) (u : Unit) => Q r ) (fun (_ : Unit) => [(o, .inr (5, [.ref o_first, .ref o_last, .int v_ticks, .int v_runs])), (o_last, .inl (cI, 360, .inl v_last))]) := by
  refine CtI.of (S := Unit) (y := yX5_width) (Tc := wkX5_width) (rm := rmX5_width) (D := D) (tys := tys4 cI cJ cZ cW) (av := [.ref o]) (wc := [(o, .inr (5, [.ref o_first, .ref o_last, .int v_ticks, .int v_runs])), (o_last, .inl (cI, 360, .inl v_last))]) (post := (fun (r : Int32) (u : Unit) => Q r )) (w1 := (fun (_ : Unit) => [(o, .inr (5, [.ref o_first, .ref o_last, .int v_ticks, .int v_runs])), (o_last, .inl (cI, 360, .inl v_last))])) (cc := cX5_width) (maxL := 5) RX5 rfl (by decide +kernel) rfl rfl [(0, .ref o)] rfl ?_
  intro p e s m args below meth c A Qm C hret
  have H10 : ∀ (n10 : Nat) (x1 : Int32) (x2 : Int32) (x3 : Int32), wX5_width_10 fu v_runs v_ticks v_last Q n10 x1 x2 x3 → G p l e rmX5_width s m args below meth c D A 5 0 0 Qm [(o, .inr (5, [.ref o_first, .ref o_last, .int v_ticks, .int v_runs])), (o_last, .inl (cI, 360, .inl v_last))] [(0, .ref o), (1, .int x1), (2, .int x2), (3, .int x3)] 10 [] := by
    intro n10
    induction n10 with
    | zero => intro x1 x2 x3 h; exact False.elim h
    | succ n10 ih10 =>
      have H34 : ∀ (x1 : Int32) (x2 : Int32) (x3 : Int32), wX5_width_34 fu v_runs v_ticks v_last Q (wX5_width_10 fu v_runs v_ticks v_last Q n10) x1 x2 x3 → G p l e rmX5_width s m args below meth c D A 5 0 0 Qm [(o, .inr (5, [.ref o_first, .ref o_last, .int v_ticks, .int v_runs])), (o_last, .inl (cI, 360, .inl v_last))] [(0, .ref o), (1, .int x1), (2, .int x2), (3, .int x3)] 34 [] := by
        intro x1 x2 x3 h
        unfold wX5_width_34 at h
        refine g_iinc C 3 x3 (x3 + (1 : Int32)) [(3, .int (x3 + (1 : Int32))), (0, .ref o), (1, .int x1), (2, .int x2)] dX5_width_34 rfl rfl (by decide) rfl ?_
        refine g_goto C 10 dX5_width_37 (by decide) ?_
        refine g_lv [1, 2, 3, 0] rfl ?_
        exact ih10  x1 x2 (x3 + (1 : Int32)) h
      intro x1 x2 x3 h
      unfold wX5_width_10 at h
      refine g_iload_n C 3 3 x3 dX5_width_10 rfl rfl ?_
      refine g_bipush C (16 : Int32) dX5_width_11 rfl ?_
      refine g_icmp_gt C 40 dX5_width_13 (by decide) (fun c2 => ?_) (fun c2 => ?_)
      · have h := wp_t c2 h
        refine g_iload_n C 1 1 x1 dX5_width_40 rfl rfl ?_
        exact hret _ () _ _ _ dX5_width_41 h rfl
      have h := wp_f c2 h
      refine g_aload_n C 0 0 o dX5_width_16 rfl rfl ?_
      refine g_iload_n C 3 3 x3 dX5_width_17 rfl rfl ?_
      refine g_callVi0 (As := [.int x3]) (rest := []) C (c_X5_offBy l D cI cJ cZ cW o o_first o_last v_ticks v_runs v_last x3 fu _ h) 1 gd_X5_48 rfl rfl rfl (by decide +kernel) ⟨Nat.le_of_ble_eq_true rfl, Nat.le_of_ble_eq_true rfl⟩ ⟨Nat.le_of_ble_eq_true rfl, Nat.le_of_ble_eq_true rfl⟩ 5 0 rfl rfl rfl rfl (Nat.le_of_ble_eq_true rfl) [0, 1] rfl rfl dX5_width_18 (fun r3 h => ?_)
      refine g_istore C [(4, .int r3), (0, .ref o), (1, .int x1), (2, .int x2), (3, .int x3)] dX5_width_21 (by decide) rfl ?_
      refine g_iload C 4 0 r3 dX5_width_23 rfl ?_
      refine g_iload_n C 2 3 x2 dX5_width_25 rfl rfl ?_
      refine g_icmp_gt C 34 dX5_width_26 (by decide) (fun c4 => ?_) (fun c4 => ?_)
      · have h := wp_t c4 h
        refine g_lv [1, 2, 3, 4] rfl ?_
        exact H34  x1 x2 x3 h
      have h := wp_f c4 h
      refine g_iload C 4 0 r3 dX5_width_29 rfl ?_
      refine g_istore_n C [(2, .int r3), (4, .int r3), (0, .ref o), (1, .int x1), (3, .int x3)] dX5_width_31 rfl (by decide) rfl ?_
      refine g_iload_n C 3 4 x3 dX5_width_32 rfl rfl ?_
      refine g_istore_n C [(1, .int x3), (2, .int r3), (4, .int r3), (0, .ref o), (3, .int x3)] dX5_width_33 rfl (by decide) rfl ?_
      refine g_lv [3, 0, 1, 4] rfl ?_
      exact H34  x3 r3 x3 h
  unfold wp_X5_width at h
  refine g_iconst C (1 : Int32) dX5_width_0 rfl ?_
  refine g_istore_n C [(1, .int (1 : Int32)), (0, .ref o)] dX5_width_1 rfl (by decide) rfl ?_
  refine g_aload_n C 0 1 o dX5_width_2 rfl rfl ?_
  refine g_iconst C (1 : Int32) dX5_width_3 rfl ?_
  refine g_callVi0 (As := [.int (1 : Int32)]) (rest := []) C (c_X5_offBy l D cI cJ cZ cW o o_first o_last v_ticks v_runs v_last (1 : Int32) fu _ h) 1 gd_X5_48 rfl rfl rfl (by decide +kernel) ⟨Nat.le_of_ble_eq_true rfl, Nat.le_of_ble_eq_true rfl⟩ ⟨Nat.le_of_ble_eq_true rfl, Nat.le_of_ble_eq_true rfl⟩ 5 0 rfl rfl rfl rfl (Nat.le_of_ble_eq_true rfl) [0, 1] rfl rfl dX5_width_4 (fun r1 h => ?_)
  refine g_istore_n C [(2, .int r1), (1, .int (1 : Int32)), (0, .ref o)] dX5_width_7 rfl (by decide) rfl ?_
  refine g_iconst C (2 : Int32) dX5_width_8 rfl ?_
  refine g_istore_n C [(3, .int (2 : Int32)), (2, .int r1), (1, .int (1 : Int32)), (0, .ref o)] dX5_width_9 rfl (by decide) rfl ?_
  refine g_lv [3, 2, 1, 0] rfl ?_
  exact H10 fu  (1 : Int32) r1 (2 : Int32) h
abbrev rmX6_has : Room := { frames := 0, cells := 0, slots := 0, locals := 0 }
def wp_X6_has (fu : Nat) (x1 : Int32) (Q : Int32 → Prop) : Prop := (if x1 < 0 then Q (0 : Int32) else (if (2 : Int32) ≤ x1 then Q (0 : Int32) else Q (1 : Int32)))
set_option maxHeartbeats 4000000 in
set_option maxRecDepth 100000 in
theorem c_X6_has (l : Launch) (D : va_G) (cI cJ cZ cW : ClassId) (o o_wires o_used : Nat) (x1 : Int32) (fu : Nat) (Q : Int32 → Prop) (h : wp_X6_has fu x1 Q) : CtI l yX6_has wkX6_has rmX6_has D (tys4 cI cJ cZ cW) [.ref o, .int x1] [(o, .inr (6, [.ref o_wires, .ref o_used]))] (fun (r : Int32) (u : Unit) => (r = 0 ∨ r = 1) ∧ (fun (r : Int32) (u : Unit) => Q r ) r u) (fun (_ : Unit) => [(o, .inr (6, [.ref o_wires, .ref o_used]))]) := by
  refine CtI.ofZ (S := Unit) (y := yX6_has) (Tc := wkX6_has) (rm := rmX6_has) (D := D) (tys := tys4 cI cJ cZ cW) (av := [.ref o, .int x1]) (wc := [(o, .inr (6, [.ref o_wires, .ref o_used]))]) (post := (fun (r : Int32) (u : Unit) => Q r )) (w1 := (fun (_ : Unit) => [(o, .inr (6, [.ref o_wires, .ref o_used]))])) (cc := cX6_has) (maxL := 2) RX6 rfl (by decide +kernel) rfl rfl [(0, .ref o), (1, .int x1)] rfl ?_
  intro p e s m args below meth c A Qm C hret
  unfold wp_X6_has at h
  refine g_iload_n C 1 1 x1 dX6_has_0 rfl rfl ?_
  refine g_if_lt C 13 dX6_has_1 (by decide) (fun c1 => ?_) (fun c1 => ?_)
  · have h := wp_t c1 h
    refine g_iconst C (0 : Int32) dX6_has_13 rfl ?_
    exact hret _ () _ _ _ (Or.inl rfl) dX6_has_14 h rfl
  have h := wp_f c1 h
  refine g_iload_n C 1 1 x1 dX6_has_4 rfl rfl ?_
  refine g_iconst C (2 : Int32) dX6_has_5 rfl ?_
  refine g_icmp_ge C 13 dX6_has_6 (by decide) (fun c2 => ?_) (fun c2 => ?_)
  · have h := wp_t c2 h
    refine g_iconst C (0 : Int32) dX6_has_13 rfl ?_
    exact hret _ () _ _ _ (Or.inl rfl) dX6_has_14 h rfl
  have h := wp_f c2 h
  refine g_iconst C (1 : Int32) dX6_has_9 rfl ?_
  refine g_goto C 14 dX6_has_10 (by decide) ?_
  exact hret _ () _ _ _ (Or.inr rfl) dX6_has_14 h rfl
abbrev rmX6_isUsed : Room := { frames := 1, cells := 0, slots := 0, locals := 21 }
def wp_X6_isUsed (fu : Nat) (v_used : (Nat → Int32)) (x1 : Int32) (Q : Int32 → Prop) : Prop := wp_X6_has fu x1 (fun (r1 : Int32) => (if r1 = 0 then Q (0 : Int32) else (vp_in x1 2 ∧ (if (v_used (ix x1)) = 0 then Q (0 : Int32) else Q (1 : Int32)))))
set_option maxHeartbeats 4000000 in
set_option maxRecDepth 100000 in
theorem c_X6_isUsed (l : Launch) (D : va_G) (cI cJ cZ cW : ClassId) (o o_wires o_used : Nat) (v_used : (Nat → Int32)) (x1 : Int32) (fu : Nat) (Q : Int32 → Prop) (h : wp_X6_isUsed fu v_used x1 Q) : CtI l yX6_isUsed wkX6_isUsed rmX6_isUsed D (tys4 cI cJ cZ cW) [.ref o, .int x1] [(o, .inr (6, [.ref o_wires, .ref o_used])), (o_used, .inl (cZ, 2, .inl v_used))] (fun (r : Int32) (u : Unit) => (r = 0 ∨ r = 1) ∧ (fun (r : Int32) (u : Unit) => Q r ) r u) (fun (_ : Unit) => [(o, .inr (6, [.ref o_wires, .ref o_used])), (o_used, .inl (cZ, 2, .inl v_used))]) := by
  refine CtI.ofZ (S := Unit) (y := yX6_isUsed) (Tc := wkX6_isUsed) (rm := rmX6_isUsed) (D := D) (tys := tys4 cI cJ cZ cW) (av := [.ref o, .int x1]) (wc := [(o, .inr (6, [.ref o_wires, .ref o_used])), (o_used, .inl (cZ, 2, .inl v_used))]) (post := (fun (r : Int32) (u : Unit) => Q r )) (w1 := (fun (_ : Unit) => [(o, .inr (6, [.ref o_wires, .ref o_used])), (o_used, .inl (cZ, 2, .inl v_used))])) (cc := cX6_isUsed) (maxL := 2) RX6 rfl (by decide +kernel) rfl rfl [(0, .ref o), (1, .int x1)] rfl ?_
  intro p e s m args below meth c A Qm C hret
  unfold wp_X6_isUsed at h
  refine g_aload_n C 0 0 o dX6_isUsed_0 rfl rfl ?_
  refine g_iload_n C 1 1 x1 dX6_isUsed_1 rfl rfl ?_
  refine g_callVi0 (As := [.int x1]) (rest := []) C (c_X6_has l D cI cJ cZ cW o o_wires o_used x1 fu _ h) 1 gd_X6_22 rfl rfl rfl (by decide +kernel) ⟨Nat.le_of_ble_eq_true rfl, Nat.le_of_ble_eq_true rfl⟩ ⟨Nat.le_of_ble_eq_true rfl, Nat.le_of_ble_eq_true rfl⟩ 6 0 rfl rfl rfl rfl (Nat.le_of_ble_eq_true rfl) [0] rfl rfl dX6_isUsed_2 (fun r1 h => ?_)
  obtain ⟨hzr1, h⟩ := h
  refine g_if_eq C 21 dX6_isUsed_5 (by decide) (fun c2 => ?_) (fun c2 => ?_)
  · have h := wp_t c2 h
    refine g_iconst C (0 : Int32) dX6_isUsed_21 rfl ?_
    exact hret _ () _ _ _ (Or.inl rfl) dX6_isUsed_22 h rfl
  have h := wp_f c2 h
  refine g_aload_n C 0 0 o dX6_isUsed_8 rfl rfl ?_
  refine g_get C 6 ix_6 0 _ rfl rfl 1 (by decide) wm_65 rfl (.ref o_used) rfl dX6_isUsed_9 ?_
  refine g_iload_n C 1 1 x1 dX6_isUsed_12 rfl rfl ?_
  obtain ⟨hi3, h⟩ := h
  refine g_zald C 1 2 cZ 2 v_used rfl rfl hi3 dX6_isUsed_13 ?_
  refine g_if_eq C 21 dX6_isUsed_14 (by decide) (fun c4 => ?_) (fun c4 => ?_)
  · have h := wp_t c4 h
    refine g_iconst C (0 : Int32) dX6_isUsed_21 rfl ?_
    exact hret _ () _ _ _ (Or.inl rfl) dX6_isUsed_22 h rfl
  have h := wp_f c4 h
  refine g_iconst C (1 : Int32) dX6_isUsed_17 rfl ?_
  refine g_goto C 22 dX6_isUsed_18 (by decide) ?_
  exact hret _ () _ _ _ (Or.inr rfl) dX6_isUsed_22 h rfl
abbrev rmX6_clear : Room := { frames := 0, cells := 0, slots := 0, locals := 0 }
def wX6_clear_2 (fu : Nat) (Q : (Nat → Int32) → Prop) : Nat → Int32 → (Nat → Int32) → Prop
  | 0, _, _ => False
  | n0 + 1, x1, v_used => (if (2 : Int32) ≤ x1 then Q v_used else (vp_in x1 2 ∧ (wX6_clear_2 fu Q n0) (x1 + (1 : Int32)) (upd v_used (ix x1) (0 : Int32))))
def wp_X6_clear (fu : Nat) (v_used : (Nat → Int32)) (Q : (Nat → Int32) → Prop) : Prop := wX6_clear_2 fu Q fu (0 : Int32) v_used
set_option maxHeartbeats 4000000 in
set_option maxRecDepth 100000 in
theorem c_X6_clear (l : Launch) (D : va_G) (cI cJ cZ cW : ClassId) (o o_wires o_used : Nat) (v_used : (Nat → Int32)) (fu : Nat) (Q : (Nat → Int32) → Prop) (h : wp_X6_clear fu v_used Q) : CtV l yX6_clear wkX6_clear rmX6_clear D (tys4 cI cJ cZ cW) [.ref o] [(o, .inr (6, [.ref o_wires, .ref o_used])), (o_used, .inl (cZ, 2, .inl v_used))] (fun (u : (Nat → Int32)) => Q u) (fun (u : (Nat → Int32)) => [(o, .inr (6, [.ref o_wires, .ref o_used])), (o_used, .inl (cZ, 2, .inl u))]) := by
  refine CtV.of (S := (Nat → Int32)) (y := yX6_clear) (Tc := wkX6_clear) (rm := rmX6_clear) (D := D) (tys := tys4 cI cJ cZ cW) (av := [.ref o]) (wc := [(o, .inr (6, [.ref o_wires, .ref o_used])), (o_used, .inl (cZ, 2, .inl v_used))]) (post := (fun (u : (Nat → Int32)) => Q u)) (w1 := (fun (u : (Nat → Int32)) => [(o, .inr (6, [.ref o_wires, .ref o_used])), (o_used, .inl (cZ, 2, .inl u))])) (cc := cX6_clear) (maxL := 2) RX6 rfl (by decide +kernel) rfl rfl [(0, .ref o)] rfl ?_
  intro p e s m args below meth c A Qm C hret
  have H2 : ∀ (n2 : Nat) (x1 : Int32) (v_used : (Nat → Int32)), wX6_clear_2 fu Q n2 x1 v_used → G p l e rmX6_clear s m args below meth c D A 2 0 0 Qm [(o, .inr (6, [.ref o_wires, .ref o_used])), (o_used, .inl (cZ, 2, .inl v_used))] [(0, .ref o), (1, .int x1)] 2 [] := by
    intro n2
    induction n2 with
    | zero => intro x1 v_used h; exact False.elim h
    | succ n2 ih2 =>
      intro x1 v_used h
      unfold wX6_clear_2 at h
      refine g_iload_n C 1 1 x1 dX6_clear_2 rfl rfl ?_
      refine g_iconst C (2 : Int32) dX6_clear_3 rfl ?_
      refine g_icmp_ge C 20 dX6_clear_4 (by decide) (fun c1 => ?_) (fun c1 => ?_)
      · have h := wp_t c1 h
        exact hret v_used _ _ _ dX6_clear_20 h rfl
      have h := wp_f c1 h
      refine g_aload_n C 0 0 o dX6_clear_7 rfl rfl ?_
      refine g_get C 6 ix_6 0 _ rfl rfl 1 (by decide) wm_65 rfl (.ref o_used) rfl dX6_clear_8 ?_
      refine g_iload_n C 1 1 x1 dX6_clear_11 rfl rfl ?_
      refine g_iconst C (0 : Int32) dX6_clear_12 rfl ?_
      obtain ⟨hi2, h⟩ := h
      refine g_zast C 1 2 cZ 2 v_used rfl rfl hi2 dX6_clear_13 [(o, .inr (6, [.ref o_wires, .ref o_used])), (o_used, .inl (cZ, 2, .inl (upd v_used (ix x1) (0 : Int32))))] rfl ?_
      refine g_iinc C 1 x1 (x1 + (1 : Int32)) [(1, .int (x1 + (1 : Int32))), (0, .ref o)] dX6_clear_14 rfl rfl (by decide) rfl ?_
      refine g_goto C 2 dX6_clear_17 (by decide) ?_
      refine g_lv [1, 0] rfl ?_
      exact ih2  (x1 + (1 : Int32)) (upd v_used (ix x1) (0 : Int32)) h
  unfold wp_X6_clear at h
  refine g_iconst C (0 : Int32) dX6_clear_0 rfl ?_
  refine g_istore_n C [(1, .int (0 : Int32)), (0, .ref o)] dX6_clear_1 rfl (by decide) rfl ?_
  refine g_lv [1, 0] rfl ?_
  exact H2 fu  (0 : Int32) v_used h
abbrev rmX6_store : Room := { frames := 2, cells := 0, slots := 0, locals := 49 }
def wp_X6_store (fu : Nat) (v_a2_ticks : Int32) (v_a2_levels : (Nat → Int32)) (x1 : Int32) (v_used : (Nat → Int32)) (v_w0_ticks : Int32) (v_w0_levels : (Nat → Int32)) (v_w1_ticks : Int32) (v_w1_levels : (Nat → Int32)) (Q : (Nat → Int32) → Int32 → (Nat → Int32) → Int32 → (Nat → Int32) → Prop) : Prop := wp_X6_has fu x1 (fun (r1 : Int32) => (if r1 = 0 then Q v_used v_w0_ticks v_w0_levels v_w1_ticks v_w1_levels else ((x1 = (0 : Int32) ∧ wp_X8_copy fu v_a2_ticks v_a2_levels v_w0_ticks v_w0_levels (fun (z3 : Int32) (z4 : (Nat → Int32)) => Q (upd v_used (ix (0 : Int32)) (1 : Int32)) z3 z4 v_w1_ticks v_w1_levels)) ∨ (x1 = (1 : Int32) ∧ wp_X8_copy fu v_a2_ticks v_a2_levels v_w1_ticks v_w1_levels (fun (z5 : Int32) (z6 : (Nat → Int32)) => Q (upd v_used (ix (1 : Int32)) (1 : Int32)) v_w0_ticks v_w0_levels z5 z6)))))
set_option maxHeartbeats 4000000 in
set_option maxRecDepth 100000 in
theorem c_X6_store (l : Launch) (D : va_G) (cI cJ cZ cW : ClassId) (o o_wires o_used o_w0 o_w0_levels o_w1 o_w1_levels o_a2 o_a2_levels : Nat) (v_used : (Nat → Int32)) (v_w0_ticks : Int32) (v_w0_levels : (Nat → Int32)) (v_w1_ticks : Int32) (v_w1_levels : (Nat → Int32)) (v_a2_ticks : Int32) (v_a2_levels : (Nat → Int32)) (x1 : Int32) (fu : Nat) (Q : (Nat → Int32) → Int32 → (Nat → Int32) → Int32 → (Nat → Int32) → Prop) (h : wp_X6_store fu v_a2_ticks v_a2_levels x1 v_used v_w0_ticks v_w0_levels v_w1_ticks v_w1_levels Q) : CtV l yX6_store wkX6_store rmX6_store D (tys4 cI cJ cZ cW) [.ref o, .int x1, .ref o_a2] [(o, .inr (6, [.ref o_wires, .ref o_used])), (o_used, .inl (cZ, 2, .inl v_used)), (o_w0, .inr (8, [.ref o_w0_levels, .int v_w0_ticks])), (o_w0_levels, .inl (cI, 360, .inl v_w0_levels)), (o_w1, .inr (8, [.ref o_w1_levels, .int v_w1_ticks])), (o_w1_levels, .inl (cI, 360, .inl v_w1_levels)), (o_wires, .inl (cW, 2, .inr (.inr (.inr (.inr (wires2 o_w0 o_w1)))))), (o_a2, .inr (8, [.ref o_a2_levels, .int v_a2_ticks])), (o_a2_levels, .inl (cI, 360, .inl v_a2_levels))] (fun (u : (Nat → Int32) × Int32 × (Nat → Int32) × Int32 × (Nat → Int32)) => Q u.1 u.2.1 u.2.2.1 u.2.2.2.1 u.2.2.2.2) (fun (u : (Nat → Int32) × Int32 × (Nat → Int32) × Int32 × (Nat → Int32)) => [(o, .inr (6, [.ref o_wires, .ref o_used])), (o_used, .inl (cZ, 2, .inl u.1)), (o_w0, .inr (8, [.ref o_w0_levels, .int u.2.1])), (o_w0_levels, .inl (cI, 360, .inl u.2.2.1)), (o_w1, .inr (8, [.ref o_w1_levels, .int u.2.2.2.1])), (o_w1_levels, .inl (cI, 360, .inl u.2.2.2.2)), (o_wires, .inl (cW, 2, .inr (.inr (.inr (.inr (wires2 o_w0 o_w1)))))), (o_a2, .inr (8, [.ref o_a2_levels, .int v_a2_ticks])), (o_a2_levels, .inl (cI, 360, .inl v_a2_levels))]) := by
  refine CtV.of (S := (Nat → Int32) × Int32 × (Nat → Int32) × Int32 × (Nat → Int32)) (y := yX6_store) (Tc := wkX6_store) (rm := rmX6_store) (D := D) (tys := tys4 cI cJ cZ cW) (av := [.ref o, .int x1, .ref o_a2]) (wc := [(o, .inr (6, [.ref o_wires, .ref o_used])), (o_used, .inl (cZ, 2, .inl v_used)), (o_w0, .inr (8, [.ref o_w0_levels, .int v_w0_ticks])), (o_w0_levels, .inl (cI, 360, .inl v_w0_levels)), (o_w1, .inr (8, [.ref o_w1_levels, .int v_w1_ticks])), (o_w1_levels, .inl (cI, 360, .inl v_w1_levels)), (o_wires, .inl (cW, 2, .inr (.inr (.inr (.inr (wires2 o_w0 o_w1)))))), (o_a2, .inr (8, [.ref o_a2_levels, .int v_a2_ticks])), (o_a2_levels, .inl (cI, 360, .inl v_a2_levels))]) (post := (fun (u : (Nat → Int32) × Int32 × (Nat → Int32) × Int32 × (Nat → Int32)) => Q u.1 u.2.1 u.2.2.1 u.2.2.2.1 u.2.2.2.2)) (w1 := (fun (u : (Nat → Int32) × Int32 × (Nat → Int32) × Int32 × (Nat → Int32)) => [(o, .inr (6, [.ref o_wires, .ref o_used])), (o_used, .inl (cZ, 2, .inl u.1)), (o_w0, .inr (8, [.ref o_w0_levels, .int u.2.1])), (o_w0_levels, .inl (cI, 360, .inl u.2.2.1)), (o_w1, .inr (8, [.ref o_w1_levels, .int u.2.2.2.1])), (o_w1_levels, .inl (cI, 360, .inl u.2.2.2.2)), (o_wires, .inl (cW, 2, .inr (.inr (.inr (.inr (wires2 o_w0 o_w1)))))), (o_a2, .inr (8, [.ref o_a2_levels, .int v_a2_ticks])), (o_a2_levels, .inl (cI, 360, .inl v_a2_levels))])) (cc := cX6_store) (maxL := 3) RX6 rfl (by decide +kernel) rfl rfl [(0, .ref o), (1, .int x1), (2, .ref o_a2)] rfl ?_
  intro p e s m args below meth c A Qm C hret
  unfold wp_X6_store at h
  refine g_aload_n C 0 0 o dX6_store_0 rfl rfl ?_
  refine g_iload_n C 1 1 x1 dX6_store_1 rfl rfl ?_
  refine g_callVi0 (As := [.int x1]) (rest := []) C (c_X6_has l D cI cJ cZ cW o o_wires o_used x1 fu _ h) 1 gd_X6_22 rfl rfl rfl (by decide +kernel) ⟨Nat.le_of_ble_eq_true rfl, Nat.le_of_ble_eq_true rfl⟩ ⟨Nat.le_of_ble_eq_true rfl, Nat.le_of_ble_eq_true rfl⟩ 6 0 rfl rfl rfl rfl (Nat.le_of_ble_eq_true rfl) [0] rfl rfl dX6_store_2 (fun r1 h => ?_)
  obtain ⟨hzr1, h⟩ := h
  refine g_if_eq C 25 dX6_store_5 (by decide) (fun c2 => ?_) (fun c2 => ?_)
  · have h := wp_t c2 h
    exact hret (v_used, v_w0_ticks, v_w0_levels, v_w1_ticks, v_w1_levels) _ _ _ dX6_store_25 h rfl
  have h := wp_f c2 h
  refine g_aload_n C 0 0 o dX6_store_8 rfl rfl ?_
  refine g_get C 6 ix_6 0 _ rfl rfl 0 (by decide) wm_63 rfl (.ref o_wires) rfl dX6_store_9 ?_
  refine g_iload_n C 1 1 x1 dX6_store_12 rfl rfl ?_
  rcases h with ⟨eq0, hq0⟩ | ⟨eq0, hq0⟩
  · subst eq0
    have h := hq0
    refine g_aald C 6 3 cW "WireGuess$Wire" 2 (wires2 o_w0 o_w1) rfl rfl (vp_in_dec rfl) o_w0 rfl dX6_store_13 ?_
    refine g_aload_n C 2 2 o_a2 dX6_store_14 rfl rfl ?_
    refine g_callVv (As := [.ref o_a2]) (rest := []) C (c_X8_copy l D cI cJ cZ cW o_w0 o_w0_levels o_a2 o_a2_levels v_w0_ticks v_w0_levels v_a2_ticks v_a2_levels fu _ h) 1 gd_X6_26 rfl rfl rfl (by decide +kernel) ⟨Nat.le_of_ble_eq_true rfl, Nat.le_of_ble_eq_true rfl⟩ ⟨Nat.le_of_ble_eq_true rfl, Nat.le_of_ble_eq_true rfl⟩ 8 2 rfl rfl rfl rfl (Nat.le_of_ble_eq_true rfl) [2, 3, 7, 8] [none, none, some 0, some 1, none, none, none, some 2, some 3] rfl rfl rfl dX6_store_15 (fun u h => ?_)
    obtain ⟨z3, z4⟩ := u
    refine ⟨[(o, .inr (6, [.ref o_wires, .ref o_used])), (o_used, .inl (cZ, 2, .inl v_used)), (o_w0, .inr (8, [.ref o_w0_levels, .int z3])), (o_w0_levels, .inl (cI, 360, .inl z4)), (o_w1, .inr (8, [.ref o_w1_levels, .int v_w1_ticks])), (o_w1_levels, .inl (cI, 360, .inl v_w1_levels)), (o_wires, .inl (cW, 2, .inr (.inr (.inr (.inr (wires2 o_w0 o_w1)))))), (o_a2, .inr (8, [.ref o_a2_levels, .int v_a2_ticks])), (o_a2_levels, .inl (cI, 360, .inl v_a2_levels))], rfl, rfl, rfl, ?_⟩
    refine g_aload_n C 0 0 o dX6_store_18 rfl rfl ?_
    refine g_get C 6 ix_6 0 _ rfl rfl 1 (by decide) wm_65 rfl (.ref o_used) rfl dX6_store_19 ?_
    refine g_iload_n C 1 1 (0 : Int32) dX6_store_22 rfl rfl ?_
    refine g_iconst C (1 : Int32) dX6_store_23 rfl ?_
    refine g_zast C 1 2 cZ 2 v_used rfl rfl (vp_in_dec rfl) dX6_store_24 [(o, .inr (6, [.ref o_wires, .ref o_used])), (o_used, .inl (cZ, 2, .inl (upd v_used (ix (0 : Int32)) (1 : Int32)))), (o_w0, .inr (8, [.ref o_w0_levels, .int z3])), (o_w0_levels, .inl (cI, 360, .inl z4)), (o_w1, .inr (8, [.ref o_w1_levels, .int v_w1_ticks])), (o_w1_levels, .inl (cI, 360, .inl v_w1_levels)), (o_wires, .inl (cW, 2, .inr (.inr (.inr (.inr (wires2 o_w0 o_w1)))))), (o_a2, .inr (8, [.ref o_a2_levels, .int v_a2_ticks])), (o_a2_levels, .inl (cI, 360, .inl v_a2_levels))] rfl ?_
    exact hret ((upd v_used (ix (0 : Int32)) (1 : Int32)), z3, z4, v_w1_ticks, v_w1_levels) _ _ _ dX6_store_25 h rfl
  · subst eq0
    have h := hq0
    refine g_aald C 6 3 cW "WireGuess$Wire" 2 (wires2 o_w0 o_w1) rfl rfl (vp_in_dec rfl) o_w1 rfl dX6_store_13 ?_
    refine g_aload_n C 2 2 o_a2 dX6_store_14 rfl rfl ?_
    refine g_callVv (As := [.ref o_a2]) (rest := []) C (c_X8_copy l D cI cJ cZ cW o_w1 o_w1_levels o_a2 o_a2_levels v_w1_ticks v_w1_levels v_a2_ticks v_a2_levels fu _ h) 1 gd_X6_26 rfl rfl rfl (by decide +kernel) ⟨Nat.le_of_ble_eq_true rfl, Nat.le_of_ble_eq_true rfl⟩ ⟨Nat.le_of_ble_eq_true rfl, Nat.le_of_ble_eq_true rfl⟩ 8 4 rfl rfl rfl rfl (Nat.le_of_ble_eq_true rfl) [4, 5, 7, 8] [none, none, none, none, some 0, some 1, none, some 2, some 3] rfl rfl rfl dX6_store_15 (fun u h => ?_)
    obtain ⟨z5, z6⟩ := u
    refine ⟨[(o, .inr (6, [.ref o_wires, .ref o_used])), (o_used, .inl (cZ, 2, .inl v_used)), (o_w0, .inr (8, [.ref o_w0_levels, .int v_w0_ticks])), (o_w0_levels, .inl (cI, 360, .inl v_w0_levels)), (o_w1, .inr (8, [.ref o_w1_levels, .int z5])), (o_w1_levels, .inl (cI, 360, .inl z6)), (o_wires, .inl (cW, 2, .inr (.inr (.inr (.inr (wires2 o_w0 o_w1)))))), (o_a2, .inr (8, [.ref o_a2_levels, .int v_a2_ticks])), (o_a2_levels, .inl (cI, 360, .inl v_a2_levels))], rfl, rfl, rfl, ?_⟩
    refine g_aload_n C 0 0 o dX6_store_18 rfl rfl ?_
    refine g_get C 6 ix_6 0 _ rfl rfl 1 (by decide) wm_65 rfl (.ref o_used) rfl dX6_store_19 ?_
    refine g_iload_n C 1 1 (1 : Int32) dX6_store_22 rfl rfl ?_
    refine g_iconst C (1 : Int32) dX6_store_23 rfl ?_
    refine g_zast C 1 2 cZ 2 v_used rfl rfl (vp_in_dec rfl) dX6_store_24 [(o, .inr (6, [.ref o_wires, .ref o_used])), (o_used, .inl (cZ, 2, .inl (upd v_used (ix (1 : Int32)) (1 : Int32)))), (o_w0, .inr (8, [.ref o_w0_levels, .int v_w0_ticks])), (o_w0_levels, .inl (cI, 360, .inl v_w0_levels)), (o_w1, .inr (8, [.ref o_w1_levels, .int z5])), (o_w1_levels, .inl (cI, 360, .inl z6)), (o_wires, .inl (cW, 2, .inr (.inr (.inr (.inr (wires2 o_w0 o_w1)))))), (o_a2, .inr (8, [.ref o_a2_levels, .int v_a2_ticks])), (o_a2_levels, .inl (cI, 360, .inl v_a2_levels))] rfl ?_
    exact hret ((upd v_used (ix (1 : Int32)) (1 : Int32)), v_w0_ticks, v_w0_levels, z5, z6) _ _ _ dX6_store_25 h rfl
abbrev rmX6_restore : Room := { frames := 2, cells := 0, slots := 0, locals := 49 }
def wp_X6_restore (fu : Nat) (v_used : (Nat → Int32)) (v_w0_ticks : Int32) (v_w0_levels : (Nat → Int32)) (v_w1_ticks : Int32) (v_w1_levels : (Nat → Int32)) (x1 : Int32) (v_a2_ticks : Int32) (v_a2_levels : (Nat → Int32)) (Q : Int32 → (Nat → Int32) → Prop) : Prop := wp_X6_isUsed fu v_used x1 (fun (r1 : Int32) => (if r1 = 0 then Q v_a2_ticks v_a2_levels else ((x1 = (0 : Int32) ∧ wp_X8_copy fu v_w0_ticks v_w0_levels v_a2_ticks v_a2_levels (fun (z3 : Int32) (z4 : (Nat → Int32)) => Q z3 z4)) ∨ (x1 = (1 : Int32) ∧ wp_X8_copy fu v_w1_ticks v_w1_levels v_a2_ticks v_a2_levels (fun (z5 : Int32) (z6 : (Nat → Int32)) => Q z5 z6)))))
set_option maxHeartbeats 4000000 in
set_option maxRecDepth 100000 in
theorem c_X6_restore (l : Launch) (D : va_G) (cI cJ cZ cW : ClassId) (o o_wires o_used o_w0 o_w0_levels o_w1 o_w1_levels o_a2 o_a2_levels : Nat) (v_used : (Nat → Int32)) (v_w0_ticks : Int32) (v_w0_levels : (Nat → Int32)) (v_w1_ticks : Int32) (v_w1_levels : (Nat → Int32)) (v_a2_ticks : Int32) (v_a2_levels : (Nat → Int32)) (x1 : Int32) (fu : Nat) (Q : Int32 → (Nat → Int32) → Prop) (h : wp_X6_restore fu v_used v_w0_ticks v_w0_levels v_w1_ticks v_w1_levels x1 v_a2_ticks v_a2_levels Q) : CtV l yX6_restore wkX6_restore rmX6_restore D (tys4 cI cJ cZ cW) [.ref o, .int x1, .ref o_a2] [(o, .inr (6, [.ref o_wires, .ref o_used])), (o_used, .inl (cZ, 2, .inl v_used)), (o_w0, .inr (8, [.ref o_w0_levels, .int v_w0_ticks])), (o_w0_levels, .inl (cI, 360, .inl v_w0_levels)), (o_w1, .inr (8, [.ref o_w1_levels, .int v_w1_ticks])), (o_w1_levels, .inl (cI, 360, .inl v_w1_levels)), (o_wires, .inl (cW, 2, .inr (.inr (.inr (.inr (wires2 o_w0 o_w1)))))), (o_a2, .inr (8, [.ref o_a2_levels, .int v_a2_ticks])), (o_a2_levels, .inl (cI, 360, .inl v_a2_levels))] (fun (u : Int32 × (Nat → Int32)) => Q u.1 u.2) (fun (u : Int32 × (Nat → Int32)) => [(o, .inr (6, [.ref o_wires, .ref o_used])), (o_used, .inl (cZ, 2, .inl v_used)), (o_w0, .inr (8, [.ref o_w0_levels, .int v_w0_ticks])), (o_w0_levels, .inl (cI, 360, .inl v_w0_levels)), (o_w1, .inr (8, [.ref o_w1_levels, .int v_w1_ticks])), (o_w1_levels, .inl (cI, 360, .inl v_w1_levels)), (o_wires, .inl (cW, 2, .inr (.inr (.inr (.inr (wires2 o_w0 o_w1)))))), (o_a2, .inr (8, [.ref o_a2_levels, .int u.1])), (o_a2_levels, .inl (cI, 360, .inl u.2))]) := by
  refine CtV.of (S := Int32 × (Nat → Int32)) (y := yX6_restore) (Tc := wkX6_restore) (rm := rmX6_restore) (D := D) (tys := tys4 cI cJ cZ cW) (av := [.ref o, .int x1, .ref o_a2]) (wc := [(o, .inr (6, [.ref o_wires, .ref o_used])), (o_used, .inl (cZ, 2, .inl v_used)), (o_w0, .inr (8, [.ref o_w0_levels, .int v_w0_ticks])), (o_w0_levels, .inl (cI, 360, .inl v_w0_levels)), (o_w1, .inr (8, [.ref o_w1_levels, .int v_w1_ticks])), (o_w1_levels, .inl (cI, 360, .inl v_w1_levels)), (o_wires, .inl (cW, 2, .inr (.inr (.inr (.inr (wires2 o_w0 o_w1)))))), (o_a2, .inr (8, [.ref o_a2_levels, .int v_a2_ticks])), (o_a2_levels, .inl (cI, 360, .inl v_a2_levels))]) (post := (fun (u : Int32 × (Nat → Int32)) => Q u.1 u.2)) (w1 := (fun (u : Int32 × (Nat → Int32)) => [(o, .inr (6, [.ref o_wires, .ref o_used])), (o_used, .inl (cZ, 2, .inl v_used)), (o_w0, .inr (8, [.ref o_w0_levels, .int v_w0_ticks])), (o_w0_levels, .inl (cI, 360, .inl v_w0_levels)), (o_w1, .inr (8, [.ref o_w1_levels, .int v_w1_ticks])), (o_w1_levels, .inl (cI, 360, .inl v_w1_levels)), (o_wires, .inl (cW, 2, .inr (.inr (.inr (.inr (wires2 o_w0 o_w1)))))), (o_a2, .inr (8, [.ref o_a2_levels, .int u.1])), (o_a2_levels, .inl (cI, 360, .inl u.2))])) (cc := cX6_restore) (maxL := 3) RX6 rfl (by decide +kernel) rfl rfl [(0, .ref o), (1, .int x1), (2, .ref o_a2)] rfl ?_
  intro p e s m args below meth c A Qm C hret
  unfold wp_X6_restore at h
  refine g_aload_n C 0 0 o dX6_restore_0 rfl rfl ?_
  refine g_iload_n C 1 1 x1 dX6_restore_1 rfl rfl ?_
  refine g_callVi0 (As := [.int x1]) (rest := []) C (c_X6_isUsed l D cI cJ cZ cW o o_wires o_used v_used x1 fu _ h) 1 gd_X6_30 rfl rfl rfl (by decide +kernel) ⟨Nat.le_of_ble_eq_true rfl, Nat.le_of_ble_eq_true rfl⟩ ⟨Nat.le_of_ble_eq_true rfl, Nat.le_of_ble_eq_true rfl⟩ 6 0 rfl rfl rfl rfl (Nat.le_of_ble_eq_true rfl) [0, 1] rfl rfl dX6_restore_2 (fun r1 h => ?_)
  obtain ⟨hzr1, h⟩ := h
  refine g_if_eq C 18 dX6_restore_5 (by decide) (fun c2 => ?_) (fun c2 => ?_)
  · have h := wp_t c2 h
    exact hret (v_a2_ticks, v_a2_levels) _ _ _ dX6_restore_18 h rfl
  have h := wp_f c2 h
  refine g_aload_n C 2 2 o_a2 dX6_restore_8 rfl rfl ?_
  refine g_aload_n C 0 0 o dX6_restore_9 rfl rfl ?_
  refine g_get C 6 ix_6 0 _ rfl rfl 0 (by decide) wm_63 rfl (.ref o_wires) rfl dX6_restore_10 ?_
  refine g_iload_n C 1 1 x1 dX6_restore_13 rfl rfl ?_
  rcases h with ⟨eq0, hq0⟩ | ⟨eq0, hq0⟩
  · subst eq0
    have h := hq0
    refine g_aald C 6 3 cW "WireGuess$Wire" 2 (wires2 o_w0 o_w1) rfl rfl (vp_in_dec rfl) o_w0 rfl dX6_restore_14 ?_
    refine g_callVv (As := [.ref o_w0]) (rest := []) C (c_X8_copy l D cI cJ cZ cW o_a2 o_a2_levels o_w0 o_w0_levels v_a2_ticks v_a2_levels v_w0_ticks v_w0_levels fu _ h) 1 gd_X6_26 rfl rfl rfl (by decide +kernel) ⟨Nat.le_of_ble_eq_true rfl, Nat.le_of_ble_eq_true rfl⟩ ⟨Nat.le_of_ble_eq_true rfl, Nat.le_of_ble_eq_true rfl⟩ 8 7 rfl rfl rfl rfl (Nat.le_of_ble_eq_true rfl) [7, 8, 2, 3] [none, none, some 2, some 3, none, none, none, some 0, some 1] rfl rfl rfl dX6_restore_15 (fun u h => ?_)
    obtain ⟨z3, z4⟩ := u
    refine ⟨[(o, .inr (6, [.ref o_wires, .ref o_used])), (o_used, .inl (cZ, 2, .inl v_used)), (o_w0, .inr (8, [.ref o_w0_levels, .int v_w0_ticks])), (o_w0_levels, .inl (cI, 360, .inl v_w0_levels)), (o_w1, .inr (8, [.ref o_w1_levels, .int v_w1_ticks])), (o_w1_levels, .inl (cI, 360, .inl v_w1_levels)), (o_wires, .inl (cW, 2, .inr (.inr (.inr (.inr (wires2 o_w0 o_w1)))))), (o_a2, .inr (8, [.ref o_a2_levels, .int z3])), (o_a2_levels, .inl (cI, 360, .inl z4))], rfl, rfl, rfl, ?_⟩
    exact hret (z3, z4) _ _ _ dX6_restore_18 h rfl
  · subst eq0
    have h := hq0
    refine g_aald C 6 3 cW "WireGuess$Wire" 2 (wires2 o_w0 o_w1) rfl rfl (vp_in_dec rfl) o_w1 rfl dX6_restore_14 ?_
    refine g_callVv (As := [.ref o_w1]) (rest := []) C (c_X8_copy l D cI cJ cZ cW o_a2 o_a2_levels o_w1 o_w1_levels v_a2_ticks v_a2_levels v_w1_ticks v_w1_levels fu _ h) 1 gd_X6_26 rfl rfl rfl (by decide +kernel) ⟨Nat.le_of_ble_eq_true rfl, Nat.le_of_ble_eq_true rfl⟩ ⟨Nat.le_of_ble_eq_true rfl, Nat.le_of_ble_eq_true rfl⟩ 8 7 rfl rfl rfl rfl (Nat.le_of_ble_eq_true rfl) [7, 8, 4, 5] [none, none, none, none, some 2, some 3, none, some 0, some 1] rfl rfl rfl dX6_restore_15 (fun u h => ?_)
    obtain ⟨z5, z6⟩ := u
    refine ⟨[(o, .inr (6, [.ref o_wires, .ref o_used])), (o_used, .inl (cZ, 2, .inl v_used)), (o_w0, .inr (8, [.ref o_w0_levels, .int v_w0_ticks])), (o_w0_levels, .inl (cI, 360, .inl v_w0_levels)), (o_w1, .inr (8, [.ref o_w1_levels, .int v_w1_ticks])), (o_w1_levels, .inl (cI, 360, .inl v_w1_levels)), (o_wires, .inl (cW, 2, .inr (.inr (.inr (.inr (wires2 o_w0 o_w1)))))), (o_a2, .inr (8, [.ref o_a2_levels, .int z5])), (o_a2_levels, .inl (cI, 360, .inl z6))], rfl, rfl, rfl, ?_⟩
    exact hret (z5, z6) _ _ _ dX6_restore_18 h rfl
abbrev rmX7_isFull : Room := { frames := 0, cells := 0, slots := 0, locals := 0 }
def wp_X7_isFull (fu : Nat) (v_length : Int32) (Q : Int32 → Prop) : Prop := (if v_length < (99 : Int32) then Q (0 : Int32) else Q (1 : Int32))
set_option maxHeartbeats 4000000 in
set_option maxRecDepth 100000 in
theorem c_X7_isFull (l : Launch) (D : va_G) (cI cJ cZ cW : ClassId) (o o_letters : Nat) (v_length : Int32) (fu : Nat) (Q : Int32 → Prop) (h : wp_X7_isFull fu v_length Q) : CtI l yX7_isFull wkX7_isFull rmX7_isFull D (tys4 cI cJ cZ cW) [.ref o] [(o, .inr (7, [.ref o_letters, .int v_length]))] (fun (r : Int32) (u : Unit) => (r = 0 ∨ r = 1) ∧ (fun (r : Int32) (u : Unit) => Q r ) r u) (fun (_ : Unit) => [(o, .inr (7, [.ref o_letters, .int v_length]))]) := by
  refine CtI.ofZ (S := Unit) (y := yX7_isFull) (Tc := wkX7_isFull) (rm := rmX7_isFull) (D := D) (tys := tys4 cI cJ cZ cW) (av := [.ref o]) (wc := [(o, .inr (7, [.ref o_letters, .int v_length]))]) (post := (fun (r : Int32) (u : Unit) => Q r )) (w1 := (fun (_ : Unit) => [(o, .inr (7, [.ref o_letters, .int v_length]))])) (cc := cX7_isFull) (maxL := 1) RX7 rfl (by decide +kernel) rfl rfl [(0, .ref o)] rfl ?_
  intro p e s m args below meth c A Qm C hret
  unfold wp_X7_isFull at h
  refine g_aload_n C 0 0 o dX7_isFull_0 rfl rfl ?_
  refine g_get C 7 ix_7 0 _ rfl rfl 1 (by decide) wm_53 rfl (.int v_length) rfl dX7_isFull_1 ?_
  refine g_bipush C (99 : Int32) dX7_isFull_4 rfl ?_
  refine g_icmp_lt C 13 dX7_isFull_6 (by decide) (fun c1 => ?_) (fun c1 => ?_)
  · have h := wp_t c1 h
    refine g_iconst C (0 : Int32) dX7_isFull_13 rfl ?_
    exact hret _ () _ _ _ (Or.inl rfl) dX7_isFull_14 h rfl
  have h := wp_f c1 h
  refine g_iconst C (1 : Int32) dX7_isFull_9 rfl ?_
  refine g_goto C 14 dX7_isFull_10 (by decide) ?_
  exact hret _ () _ _ _ (Or.inr rfl) dX7_isFull_14 h rfl
abbrev rmX7_add : Room := { frames := 1, cells := 0, slots := 0, locals := 20 }
def wp_X7_add (fu : Nat) (x1 : Int32) (v_length : Int32) (v_letters : (Nat → Int32)) (Q : Int32 → (Nat → Int32) → Prop) : Prop := wp_X7_isFull fu v_length (fun (r1 : Int32) => (if r1 = 0 then (vp_in v_length 99 ∧ Q (v_length + (1 : Int32)) (upd v_letters (ix v_length) x1)) else Q v_length v_letters))
set_option maxHeartbeats 4000000 in
set_option maxRecDepth 100000 in
theorem c_X7_add (l : Launch) (D : va_G) (cI cJ cZ cW : ClassId) (o o_letters : Nat) (v_length : Int32) (v_letters : (Nat → Int32)) (x1 : Int32) (fu : Nat) (Q : Int32 → (Nat → Int32) → Prop) (h : wp_X7_add fu x1 v_length v_letters Q) : CtV l yX7_add wkX7_add rmX7_add D (tys4 cI cJ cZ cW) [.ref o, .int x1] [(o, .inr (7, [.ref o_letters, .int v_length])), (o_letters, .inl (cI, 99, .inl v_letters))] (fun (u : Int32 × (Nat → Int32)) => Q u.1 u.2) (fun (u : Int32 × (Nat → Int32)) => [(o, .inr (7, [.ref o_letters, .int u.1])), (o_letters, .inl (cI, 99, .inl u.2))]) := by
  refine CtV.of (S := Int32 × (Nat → Int32)) (y := yX7_add) (Tc := wkX7_add) (rm := rmX7_add) (D := D) (tys := tys4 cI cJ cZ cW) (av := [.ref o, .int x1]) (wc := [(o, .inr (7, [.ref o_letters, .int v_length])), (o_letters, .inl (cI, 99, .inl v_letters))]) (post := (fun (u : Int32 × (Nat → Int32)) => Q u.1 u.2)) (w1 := (fun (u : Int32 × (Nat → Int32)) => [(o, .inr (7, [.ref o_letters, .int u.1])), (o_letters, .inl (cI, 99, .inl u.2))])) (cc := cX7_add) (maxL := 2) RX7 rfl (by decide +kernel) rfl rfl [(0, .ref o), (1, .int x1)] rfl ?_
  intro p e s m args below meth c A Qm C hret
  unfold wp_X7_add at h
  refine g_aload_n C 0 0 o dX7_add_0 rfl rfl ?_
  refine g_callVi0 (As := []) (rest := []) C (c_X7_isFull l D cI cJ cZ cW o o_letters v_length fu _ h) 0 gd_X7_19 rfl rfl rfl (by decide +kernel) ⟨Nat.le_of_ble_eq_true rfl, Nat.le_of_ble_eq_true rfl⟩ ⟨Nat.le_of_ble_eq_true rfl, Nat.le_of_ble_eq_true rfl⟩ 7 0 rfl rfl rfl rfl (Nat.le_of_ble_eq_true rfl) [0] rfl rfl dX7_add_1 (fun r1 h => ?_)
  obtain ⟨hzr1, h⟩ := h
  refine g_if_ne C 27 dX7_add_4 (by decide) (fun c2 => ?_) (fun c2 => ?_)
  · have h := wp_f c2 h
    exact hret (v_length, v_letters) _ _ _ dX7_add_27 h rfl
  have h := wp_t c2 h
  refine g_aload_n C 0 0 o dX7_add_7 rfl rfl ?_
  refine g_get C 7 ix_7 0 _ rfl rfl 0 (by decide) wm_52 rfl (.ref o_letters) rfl dX7_add_8 ?_
  refine g_aload_n C 0 0 o dX7_add_11 rfl rfl ?_
  refine g_get C 7 ix_7 0 _ rfl rfl 1 (by decide) wm_53 rfl (.int v_length) rfl dX7_add_12 ?_
  refine g_iload_n C 1 1 x1 dX7_add_15 rfl rfl ?_
  obtain ⟨hi3, h⟩ := h
  refine g_iast C 1 0 cI 99 v_letters rfl rfl hi3 dX7_add_16 [(o, .inr (7, [.ref o_letters, .int v_length])), (o_letters, .inl (cI, 99, .inl (upd v_letters (ix v_length) x1)))] rfl ?_
  refine g_aload_n C 0 0 o dX7_add_17 rfl rfl ?_
  refine g_dup C dX7_add_18 rfl ?_
  refine g_get C 7 ix_7 0 _ rfl rfl 1 (by decide) wm_53 rfl (.int v_length) rfl dX7_add_19 ?_
  refine g_iconst C (1 : Int32) dX7_add_22 rfl ?_
  refine g_iadd C dX7_add_23 ?_
  refine g_put C 7 ix_7 0 _ rfl rfl 1 (by decide) wm_53 rfl tyX7 tyX7_ok nmX7 rfl rfl rfl (Nat.le_of_ble_eq_true rfl) dX7_add_24 [(o, .inr (7, [.ref o_letters, .int (v_length + (1 : Int32))])), (o_letters, .inl (cI, 99, .inl (upd v_letters (ix v_length) x1)))] rfl ?_
  exact hret ((v_length + (1 : Int32)), (upd v_letters (ix v_length) x1)) _ _ _ dX7_add_27 h rfl
abbrev rmX7_signAt : Room := { frames := 0, cells := 0, slots := 0, locals := 0 }
def wp_X7_signAt (fu : Nat) (v_length : Int32) (v_letters : (Nat → Int32)) (x1 : Int32) (Q : Int32 → Prop) : Prop := (if x1 < 0 then Q (-9 : Int32) else (if v_length ≤ x1 then Q (-9 : Int32) else (vp_in x1 99 ∧ Q (v_letters (ix x1)))))
set_option maxHeartbeats 4000000 in
set_option maxRecDepth 100000 in
theorem c_X7_signAt (l : Launch) (D : va_G) (cI cJ cZ cW : ClassId) (o o_letters : Nat) (v_length : Int32) (v_letters : (Nat → Int32)) (x1 : Int32) (fu : Nat) (Q : Int32 → Prop) (h : wp_X7_signAt fu v_length v_letters x1 Q) : CtI l yX7_signAt wkX7_signAt rmX7_signAt D (tys4 cI cJ cZ cW) [.ref o, .int x1] [(o, .inr (7, [.ref o_letters, .int v_length])), (o_letters, .inl (cI, 99, .inl v_letters))] (fun (r : Int32) (u : Unit) => Q r ) (fun (_ : Unit) => [(o, .inr (7, [.ref o_letters, .int v_length])), (o_letters, .inl (cI, 99, .inl v_letters))]) := by
  refine CtI.of (S := Unit) (y := yX7_signAt) (Tc := wkX7_signAt) (rm := rmX7_signAt) (D := D) (tys := tys4 cI cJ cZ cW) (av := [.ref o, .int x1]) (wc := [(o, .inr (7, [.ref o_letters, .int v_length])), (o_letters, .inl (cI, 99, .inl v_letters))]) (post := (fun (r : Int32) (u : Unit) => Q r )) (w1 := (fun (_ : Unit) => [(o, .inr (7, [.ref o_letters, .int v_length])), (o_letters, .inl (cI, 99, .inl v_letters))])) (cc := cX7_signAt) (maxL := 2) RX7 rfl (by decide +kernel) rfl rfl [(0, .ref o), (1, .int x1)] rfl ?_
  intro p e s m args below meth c A Qm C hret
  unfold wp_X7_signAt at h
  refine g_iload_n C 1 1 x1 dX7_signAt_0 rfl rfl ?_
  refine g_if_lt C 21 dX7_signAt_1 (by decide) (fun c1 => ?_) (fun c1 => ?_)
  · have h := wp_t c1 h
    refine g_bipush C (-9 : Int32) dX7_signAt_21 rfl ?_
    exact hret _ () _ _ _ dX7_signAt_23 h rfl
  have h := wp_f c1 h
  refine g_iload_n C 1 1 x1 dX7_signAt_4 rfl rfl ?_
  refine g_aload_n C 0 0 o dX7_signAt_5 rfl rfl ?_
  refine g_get C 7 ix_7 0 _ rfl rfl 1 (by decide) wm_53 rfl (.int v_length) rfl dX7_signAt_6 ?_
  refine g_icmp_ge C 21 dX7_signAt_9 (by decide) (fun c2 => ?_) (fun c2 => ?_)
  · have h := wp_t c2 h
    refine g_bipush C (-9 : Int32) dX7_signAt_21 rfl ?_
    exact hret _ () _ _ _ dX7_signAt_23 h rfl
  have h := wp_f c2 h
  refine g_aload_n C 0 0 o dX7_signAt_12 rfl rfl ?_
  refine g_get C 7 ix_7 0 _ rfl rfl 0 (by decide) wm_52 rfl (.ref o_letters) rfl dX7_signAt_13 ?_
  refine g_iload_n C 1 1 x1 dX7_signAt_16 rfl rfl ?_
  obtain ⟨hi3, h⟩ := h
  refine g_iald C 1 0 cI 99 v_letters rfl rfl hi3 dX7_signAt_17 ?_
  refine g_goto C 23 dX7_signAt_18 (by decide) ?_
  exact hret _ () _ _ _ dX7_signAt_23 h rfl
abbrev rmX7_figureAt : Room := { frames := 1, cells := 0, slots := 0, locals := 21 }
def wp_X7_figureAt (fu : Nat) (v_length : Int32) (v_letters : (Nat → Int32)) (x1 : Int32) (Q : Int32 → Prop) : Prop := wp_X7_signAt fu v_length v_letters x1 (fun (r1 : Int32) => (if r1 < (48 : Int32) then Q (-9 : Int32) else (if (57 : Int32) < r1 then Q (-9 : Int32) else Q (r1 - (48 : Int32)))))
set_option maxHeartbeats 4000000 in
set_option maxRecDepth 100000 in
theorem c_X7_figureAt (l : Launch) (D : va_G) (cI cJ cZ cW : ClassId) (o o_letters : Nat) (v_length : Int32) (v_letters : (Nat → Int32)) (x1 : Int32) (fu : Nat) (Q : Int32 → Prop) (h : wp_X7_figureAt fu v_length v_letters x1 Q) : CtI l yX7_figureAt wkX7_figureAt rmX7_figureAt D (tys4 cI cJ cZ cW) [.ref o, .int x1] [(o, .inr (7, [.ref o_letters, .int v_length])), (o_letters, .inl (cI, 99, .inl v_letters))] (fun (r : Int32) (u : Unit) => Q r ) (fun (_ : Unit) => [(o, .inr (7, [.ref o_letters, .int v_length])), (o_letters, .inl (cI, 99, .inl v_letters))]) := by
  refine CtI.of (S := Unit) (y := yX7_figureAt) (Tc := wkX7_figureAt) (rm := rmX7_figureAt) (D := D) (tys := tys4 cI cJ cZ cW) (av := [.ref o, .int x1]) (wc := [(o, .inr (7, [.ref o_letters, .int v_length])), (o_letters, .inl (cI, 99, .inl v_letters))]) (post := (fun (r : Int32) (u : Unit) => Q r )) (w1 := (fun (_ : Unit) => [(o, .inr (7, [.ref o_letters, .int v_length])), (o_letters, .inl (cI, 99, .inl v_letters))])) (cc := cX7_figureAt) (maxL := 3) RX7 rfl (by decide +kernel) rfl rfl [(0, .ref o), (1, .int x1)] rfl ?_
  intro p e s m args below meth c A Qm C hret
  unfold wp_X7_figureAt at h
  refine g_aload_n C 0 0 o dX7_figureAt_0 rfl rfl ?_
  refine g_iload_n C 1 1 x1 dX7_figureAt_1 rfl rfl ?_
  refine g_callVi0 (As := [.int x1]) (rest := []) C (c_X7_signAt l D cI cJ cZ cW o o_letters v_length v_letters x1 fu _ h) 1 gd_X7_23 rfl rfl rfl (by decide +kernel) ⟨Nat.le_of_ble_eq_true rfl, Nat.le_of_ble_eq_true rfl⟩ ⟨Nat.le_of_ble_eq_true rfl, Nat.le_of_ble_eq_true rfl⟩ 7 0 rfl rfl rfl rfl (Nat.le_of_ble_eq_true rfl) [0, 1] rfl rfl dX7_figureAt_2 (fun r1 h => ?_)
  refine g_istore_n C [(2, .int r1), (0, .ref o), (1, .int x1)] dX7_figureAt_5 rfl (by decide) rfl ?_
  refine g_iload_n C 2 0 r1 dX7_figureAt_6 rfl rfl ?_
  refine g_bipush C (48 : Int32) dX7_figureAt_7 rfl ?_
  refine g_icmp_lt C 25 dX7_figureAt_9 (by decide) (fun c2 => ?_) (fun c2 => ?_)
  · have h := wp_t c2 h
    refine g_bipush C (-9 : Int32) dX7_figureAt_25 rfl ?_
    exact hret _ () _ _ _ dX7_figureAt_27 h rfl
  have h := wp_f c2 h
  refine g_iload_n C 2 0 r1 dX7_figureAt_12 rfl rfl ?_
  refine g_bipush C (57 : Int32) dX7_figureAt_13 rfl ?_
  refine g_icmp_gt C 25 dX7_figureAt_15 (by decide) (fun c3 => ?_) (fun c3 => ?_)
  · have h := wp_t c3 h
    refine g_bipush C (-9 : Int32) dX7_figureAt_25 rfl ?_
    exact hret _ () _ _ _ dX7_figureAt_27 h rfl
  have h := wp_f c3 h
  refine g_iload_n C 2 0 r1 dX7_figureAt_18 rfl rfl ?_
  refine g_bipush C (48 : Int32) dX7_figureAt_19 rfl ?_
  refine g_isub C dX7_figureAt_21 ?_
  refine g_goto C 27 dX7_figureAt_22 (by decide) ?_
  exact hret _ () _ _ _ dX7_figureAt_27 h rfl
abbrev rmX7_faultOfRun : Room := { frames := 2, cells := 0, slots := 0, locals := 43 }
def wp_X7_faultOfRun (fu : Nat) (v_length : Int32) (v_letters : (Nat → Int32)) (x1 : Int32) (x2 : Int32) (Q : Int32 → Prop) : Prop := (∀ y1 : Int32, y1 = ((360 : Int32) - x2) → wp_X7_signAt fu v_length v_letters x1 (fun (r2 : Int32) => (if r2 = (114 : Int32) then (if (1 : Int32) ≤ y1 then wp_X7_figureAt fu v_length v_letters (x1 + (1 : Int32)) (fun (r5 : Int32) => (if r5 = (-9 : Int32) then Q (x1 + (1 : Int32)) else (if ((10 : Int32) * r5) ≤ y1 then wp_X7_figureAt fu v_length v_letters (x1 + (2 : Int32)) (fun (r8 : Int32) => (∀ y9 : Int32, y9 = (((10 : Int32) * r5) + r8) → (if r8 = (-9 : Int32) then Q (x1 + (2 : Int32)) else (if y9 < (1 : Int32) then Q (x1 + (2 : Int32)) else (if y9 ≤ y1 then Q (-9 : Int32) else Q (x1 + (2 : Int32))))))) else Q (x1 + (1 : Int32))))) else Q x1) else Q x1)))
set_option maxHeartbeats 4000000 in
set_option maxRecDepth 100000 in
theorem c_X7_faultOfRun (l : Launch) (D : va_G) (cI cJ cZ cW : ClassId) (o o_letters : Nat) (v_length : Int32) (v_letters : (Nat → Int32)) (x1 : Int32) (x2 : Int32) (fu : Nat) (Q : Int32 → Prop) (h : wp_X7_faultOfRun fu v_length v_letters x1 x2 Q) : CtI l yX7_faultOfRun wkX7_faultOfRun rmX7_faultOfRun D (tys4 cI cJ cZ cW) [.ref o, .int x1, .int x2] [(o, .inr (7, [.ref o_letters, .int v_length])), (o_letters, .inl (cI, 99, .inl v_letters))] (fun (r : Int32) (u : Unit) => Q r ) (fun (_ : Unit) => [(o, .inr (7, [.ref o_letters, .int v_length])), (o_letters, .inl (cI, 99, .inl v_letters))]) := by
  refine CtI.of (S := Unit) (y := yX7_faultOfRun) (Tc := wkX7_faultOfRun) (rm := rmX7_faultOfRun) (D := D) (tys := tys4 cI cJ cZ cW) (av := [.ref o, .int x1, .int x2]) (wc := [(o, .inr (7, [.ref o_letters, .int v_length])), (o_letters, .inl (cI, 99, .inl v_letters))]) (post := (fun (r : Int32) (u : Unit) => Q r )) (w1 := (fun (_ : Unit) => [(o, .inr (7, [.ref o_letters, .int v_length])), (o_letters, .inl (cI, 99, .inl v_letters))])) (cc := cX7_faultOfRun) (maxL := 7) RX7 rfl (by decide +kernel) rfl rfl [(0, .ref o), (1, .int x1), (2, .int x2)] rfl ?_
  intro p e s m args below meth c A Qm C hret
  unfold wp_X7_faultOfRun at h
  refine g_sipush C (360 : Int32) dX7_faultOfRun_0 rfl ?_
  refine g_iload_n C 2 2 x2 dX7_faultOfRun_3 rfl rfl ?_
  refine g_isub C dX7_faultOfRun_4 ?_
  refine g_topi (fun y1 ey1 => ?_)
  have h := h y1 ey1
  refine g_istore_n C [(3, .int y1), (0, .ref o), (1, .int x1), (2, .int x2)] dX7_faultOfRun_5 rfl (by decide) rfl ?_
  refine g_aload_n C 0 1 o dX7_faultOfRun_6 rfl rfl ?_
  refine g_iload_n C 1 2 x1 dX7_faultOfRun_7 rfl rfl ?_
  refine g_callVi0 (As := [.int x1]) (rest := []) C (c_X7_signAt l D cI cJ cZ cW o o_letters v_length v_letters x1 fu _ h) 1 gd_X7_23 rfl rfl rfl (by decide +kernel) ⟨Nat.le_of_ble_eq_true rfl, Nat.le_of_ble_eq_true rfl⟩ ⟨Nat.le_of_ble_eq_true rfl, Nat.le_of_ble_eq_true rfl⟩ 7 0 rfl rfl rfl rfl (Nat.le_of_ble_eq_true rfl) [0, 1] rfl rfl dX7_faultOfRun_8 (fun r2 h => ?_)
  refine g_bipush C (114 : Int32) dX7_faultOfRun_11 rfl ?_
  refine g_icmp_ne C 21 dX7_faultOfRun_13 (by decide) (fun c3 => ?_) (fun c3 => ?_)
  · have h := wp_f c3 h
    refine g_iload_n C 1 2 x1 dX7_faultOfRun_21 rfl rfl ?_
    exact hret _ () _ _ _ dX7_faultOfRun_22 h rfl
  have h := wp_t c3 h
  refine g_iload_n C 3 0 y1 dX7_faultOfRun_16 rfl rfl ?_
  refine g_iconst C (1 : Int32) dX7_faultOfRun_17 rfl ?_
  refine g_icmp_ge C 23 dX7_faultOfRun_18 (by decide) (fun c4 => ?_) (fun c4 => ?_)
  rotate_left
  · have h := wp_f c4 h
    refine g_iload_n C 1 2 x1 dX7_faultOfRun_21 rfl rfl ?_
    exact hret _ () _ _ _ dX7_faultOfRun_22 h rfl
  have h := wp_t c4 h
  refine g_aload_n C 0 1 o dX7_faultOfRun_23 rfl rfl ?_
  refine g_iload_n C 1 2 x1 dX7_faultOfRun_24 rfl rfl ?_
  refine g_iconst C (1 : Int32) dX7_faultOfRun_25 rfl ?_
  refine g_iadd C dX7_faultOfRun_26 ?_
  refine g_callVi0 (As := [.int (x1 + (1 : Int32))]) (rest := []) C (c_X7_figureAt l D cI cJ cZ cW o o_letters v_length v_letters (x1 + (1 : Int32)) fu _ h) 1 gd_X7_44 rfl rfl rfl (by decide +kernel) ⟨Nat.le_of_ble_eq_true rfl, Nat.le_of_ble_eq_true rfl⟩ ⟨Nat.le_of_ble_eq_true rfl, Nat.le_of_ble_eq_true rfl⟩ 7 0 rfl rfl rfl rfl (Nat.le_of_ble_eq_true rfl) [0, 1] rfl rfl dX7_faultOfRun_27 (fun r5 h => ?_)
  refine g_istore C [(4, .int r5), (3, .int y1), (0, .ref o), (1, .int x1), (2, .int x2)] dX7_faultOfRun_30 (by decide) rfl ?_
  refine g_iload C 4 0 r5 dX7_faultOfRun_32 rfl ?_
  refine g_bipush C (-9 : Int32) dX7_faultOfRun_34 rfl ?_
  refine g_icmp_eq C 48 dX7_faultOfRun_36 (by decide) (fun c6 => ?_) (fun c6 => ?_)
  · have h := wp_t c6 h
    refine g_iload_n C 1 3 x1 dX7_faultOfRun_48 rfl rfl ?_
    refine g_iconst C (1 : Int32) dX7_faultOfRun_49 rfl ?_
    refine g_iadd C dX7_faultOfRun_50 ?_
    exact hret _ () _ _ _ dX7_faultOfRun_51 h rfl
  have h := wp_f c6 h
  refine g_bipush C (10 : Int32) dX7_faultOfRun_39 rfl ?_
  refine g_iload C 4 0 r5 dX7_faultOfRun_41 rfl ?_
  refine g_imul C dX7_faultOfRun_43 ?_
  refine g_iload_n C 3 1 y1 dX7_faultOfRun_44 rfl rfl ?_
  refine g_icmp_le C 52 dX7_faultOfRun_45 (by decide) (fun c7 => ?_) (fun c7 => ?_)
  rotate_left
  · have h := wp_f c7 h
    refine g_iload_n C 1 3 x1 dX7_faultOfRun_48 rfl rfl ?_
    refine g_iconst C (1 : Int32) dX7_faultOfRun_49 rfl ?_
    refine g_iadd C dX7_faultOfRun_50 ?_
    exact hret _ () _ _ _ dX7_faultOfRun_51 h rfl
  have h := wp_t c7 h
  refine g_aload_n C 0 2 o dX7_faultOfRun_52 rfl rfl ?_
  refine g_iload_n C 1 3 x1 dX7_faultOfRun_53 rfl rfl ?_
  refine g_iconst C (2 : Int32) dX7_faultOfRun_54 rfl ?_
  refine g_iadd C dX7_faultOfRun_55 ?_
  refine g_callVi0 (As := [.int (x1 + (2 : Int32))]) (rest := []) C (c_X7_figureAt l D cI cJ cZ cW o o_letters v_length v_letters (x1 + (2 : Int32)) fu _ h) 1 gd_X7_44 rfl rfl rfl (by decide +kernel) ⟨Nat.le_of_ble_eq_true rfl, Nat.le_of_ble_eq_true rfl⟩ ⟨Nat.le_of_ble_eq_true rfl, Nat.le_of_ble_eq_true rfl⟩ 7 0 rfl rfl rfl rfl (Nat.le_of_ble_eq_true rfl) [0, 1] rfl rfl dX7_faultOfRun_56 (fun r8 h => ?_)
  refine g_istore C [(5, .int r8), (4, .int r5), (3, .int y1), (0, .ref o), (1, .int x1), (2, .int x2)] dX7_faultOfRun_59 (by decide) rfl ?_
  refine g_bipush C (10 : Int32) dX7_faultOfRun_61 rfl ?_
  refine g_iload C 4 1 r5 dX7_faultOfRun_63 rfl ?_
  refine g_imul C dX7_faultOfRun_65 ?_
  refine g_iload C 5 0 r8 dX7_faultOfRun_66 rfl ?_
  refine g_iadd C dX7_faultOfRun_68 ?_
  refine g_topi (fun y9 ey9 => ?_)
  have h := h y9 ey9
  refine g_istore C [(6, .int y9), (5, .int r8), (4, .int r5), (3, .int y1), (0, .ref o), (1, .int x1), (2, .int x2)] dX7_faultOfRun_69 (by decide) rfl ?_
  refine g_iload C 5 1 r8 dX7_faultOfRun_71 rfl ?_
  refine g_bipush C (-9 : Int32) dX7_faultOfRun_73 rfl ?_
  refine g_icmp_eq C 90 dX7_faultOfRun_75 (by decide) (fun c10 => ?_) (fun c10 => ?_)
  · have h := wp_t c10 h
    refine g_iload_n C 1 5 x1 dX7_faultOfRun_90 rfl rfl ?_
    refine g_iconst C (2 : Int32) dX7_faultOfRun_91 rfl ?_
    refine g_iadd C dX7_faultOfRun_92 ?_
    exact hret _ () _ _ _ dX7_faultOfRun_93 h rfl
  have h := wp_f c10 h
  refine g_iload C 6 0 y9 dX7_faultOfRun_78 rfl ?_
  refine g_iconst C (1 : Int32) dX7_faultOfRun_80 rfl ?_
  refine g_icmp_lt C 90 dX7_faultOfRun_81 (by decide) (fun c11 => ?_) (fun c11 => ?_)
  · have h := wp_t c11 h
    refine g_iload_n C 1 5 x1 dX7_faultOfRun_90 rfl rfl ?_
    refine g_iconst C (2 : Int32) dX7_faultOfRun_91 rfl ?_
    refine g_iadd C dX7_faultOfRun_92 ?_
    exact hret _ () _ _ _ dX7_faultOfRun_93 h rfl
  have h := wp_f c11 h
  refine g_iload C 6 0 y9 dX7_faultOfRun_84 rfl ?_
  refine g_iload_n C 3 3 y1 dX7_faultOfRun_86 rfl rfl ?_
  refine g_icmp_le C 94 dX7_faultOfRun_87 (by decide) (fun c12 => ?_) (fun c12 => ?_)
  · have h := wp_t c12 h
    refine g_bipush C (-9 : Int32) dX7_faultOfRun_94 rfl ?_
    exact hret _ () _ _ _ dX7_faultOfRun_96 h rfl
  have h := wp_f c12 h
  refine g_iload_n C 1 5 x1 dX7_faultOfRun_90 rfl rfl ?_
  refine g_iconst C (2 : Int32) dX7_faultOfRun_91 rfl ?_
  refine g_iadd C dX7_faultOfRun_92 ?_
  exact hret _ () _ _ _ dX7_faultOfRun_93 h rfl
abbrev rmX7_ticksToldAt : Room := { frames := 2, cells := 0, slots := 0, locals := 43 }
def wp_X7_ticksToldAt (fu : Nat) (v_length : Int32) (v_letters : (Nat → Int32)) (x1 : Int32) (Q : Int32 → Prop) : Prop := wp_X7_figureAt fu v_length v_letters (x1 + (1 : Int32)) (fun (r1 : Int32) => wp_X7_figureAt fu v_length v_letters (x1 + (2 : Int32)) (fun (r2 : Int32) => Q (((10 : Int32) * r1) + r2)))
set_option maxHeartbeats 4000000 in
set_option maxRecDepth 100000 in
theorem c_X7_ticksToldAt (l : Launch) (D : va_G) (cI cJ cZ cW : ClassId) (o o_letters : Nat) (v_length : Int32) (v_letters : (Nat → Int32)) (x1 : Int32) (fu : Nat) (Q : Int32 → Prop) (h : wp_X7_ticksToldAt fu v_length v_letters x1 Q) : CtI l yX7_ticksToldAt wkX7_ticksToldAt rmX7_ticksToldAt D (tys4 cI cJ cZ cW) [.ref o, .int x1] [(o, .inr (7, [.ref o_letters, .int v_length])), (o_letters, .inl (cI, 99, .inl v_letters))] (fun (r : Int32) (u : Unit) => Q r ) (fun (_ : Unit) => [(o, .inr (7, [.ref o_letters, .int v_length])), (o_letters, .inl (cI, 99, .inl v_letters))]) := by
  refine CtI.of (S := Unit) (y := yX7_ticksToldAt) (Tc := wkX7_ticksToldAt) (rm := rmX7_ticksToldAt) (D := D) (tys := tys4 cI cJ cZ cW) (av := [.ref o, .int x1]) (wc := [(o, .inr (7, [.ref o_letters, .int v_length])), (o_letters, .inl (cI, 99, .inl v_letters))]) (post := (fun (r : Int32) (u : Unit) => Q r )) (w1 := (fun (_ : Unit) => [(o, .inr (7, [.ref o_letters, .int v_length])), (o_letters, .inl (cI, 99, .inl v_letters))])) (cc := cX7_ticksToldAt) (maxL := 2) RX7 rfl (by decide +kernel) rfl rfl [(0, .ref o), (1, .int x1)] rfl ?_
  intro p e s m args below meth c A Qm C hret
  unfold wp_X7_ticksToldAt at h
  refine g_bipush C (10 : Int32) dX7_ticksToldAt_0 rfl ?_
  refine g_aload_n C 0 0 o dX7_ticksToldAt_2 rfl rfl ?_
  refine g_iload_n C 1 1 x1 dX7_ticksToldAt_3 rfl rfl ?_
  refine g_iconst C (1 : Int32) dX7_ticksToldAt_4 rfl ?_
  refine g_iadd C dX7_ticksToldAt_5 ?_
  refine g_callVi0 (As := [.int (x1 + (1 : Int32))]) (rest := [.int (10 : Int32)]) C (c_X7_figureAt l D cI cJ cZ cW o o_letters v_length v_letters (x1 + (1 : Int32)) fu _ h) 1 gd_X7_44 rfl rfl rfl (by decide +kernel) ⟨Nat.le_of_ble_eq_true rfl, Nat.le_of_ble_eq_true rfl⟩ ⟨Nat.le_of_ble_eq_true rfl, Nat.le_of_ble_eq_true rfl⟩ 7 0 rfl rfl rfl rfl (Nat.le_of_ble_eq_true rfl) [0, 1] rfl rfl dX7_ticksToldAt_6 (fun r1 h => ?_)
  refine g_imul C dX7_ticksToldAt_9 ?_
  refine g_aload_n C 0 0 o dX7_ticksToldAt_10 rfl rfl ?_
  refine g_iload_n C 1 1 x1 dX7_ticksToldAt_11 rfl rfl ?_
  refine g_iconst C (2 : Int32) dX7_ticksToldAt_12 rfl ?_
  refine g_iadd C dX7_ticksToldAt_13 ?_
  refine g_callVi0 (As := [.int (x1 + (2 : Int32))]) (rest := [.int ((10 : Int32) * r1)]) C (c_X7_figureAt l D cI cJ cZ cW o o_letters v_length v_letters (x1 + (2 : Int32)) fu _ h) 1 gd_X7_44 rfl rfl rfl (by decide +kernel) ⟨Nat.le_of_ble_eq_true rfl, Nat.le_of_ble_eq_true rfl⟩ ⟨Nat.le_of_ble_eq_true rfl, Nat.le_of_ble_eq_true rfl⟩ 7 0 rfl rfl rfl rfl (Nat.le_of_ble_eq_true rfl) [0, 1] rfl rfl dX7_ticksToldAt_14 (fun r2 h => ?_)
  refine g_iadd C dX7_ticksToldAt_17 ?_
  exact hret _ () _ _ _ dX7_ticksToldAt_18 h rfl
abbrev rmX7_firstFault : Room := { frames := 3, cells := 0, slots := 0, locals := 69 }
def wX7_firstFault_38 (fu : Nat) (v_length : Int32) (v_letters : (Nat → Int32)) (Q : Int32 → Prop) : Nat → Int32 → Int32 → Prop
  | 0, _, _ => False
  | n0 + 1, x1, x2 => (if v_length ≤ x2 then Q (-9 : Int32) else wp_X7_faultOfRun fu v_length v_letters x2 x1 (fun (r8 : Int32) => (if r8 = (-9 : Int32) then wp_X7_ticksToldAt fu v_length v_letters x2 (fun (r10 : Int32) => (∀ y11 : Int32, y11 = (x1 + r10) → (wX7_firstFault_38 fu v_length v_letters Q n0) y11 (x2 + (3 : Int32)))) else Q r8)))
def wX7_firstFault_34 (fu : Nat) (v_length : Int32) (v_letters : (Nat → Int32)) (Q : Int32 → Prop)  : Prop := wX7_firstFault_38 fu v_length v_letters Q fu (0 : Int32) (2 : Int32)
def wp_X7_firstFault (fu : Nat) (v_length : Int32) (v_letters : (Nat → Int32)) (Q : Int32 → Prop) : Prop := wp_X7_signAt fu v_length v_letters (0 : Int32) (fun (r1 : Int32) => (if r1 = (83 : Int32) then wp_X7_signAt fu v_length v_letters (1 : Int32) (fun (r3 : Int32) => (if r3 = (48 : Int32) then wX7_firstFault_34 fu v_length v_letters Q  else wp_X7_signAt fu v_length v_letters (1 : Int32) (fun (r5 : Int32) => (if r5 = (49 : Int32) then wX7_firstFault_34 fu v_length v_letters Q  else Q (1 : Int32))))) else Q (0 : Int32)))
set_option maxHeartbeats 4000000 in
set_option maxRecDepth 100000 in
theorem c_X7_firstFault (l : Launch) (D : va_G) (cI cJ cZ cW : ClassId) (o o_letters : Nat) (v_length : Int32) (v_letters : (Nat → Int32)) (fu : Nat) (Q : Int32 → Prop) (h : wp_X7_firstFault fu v_length v_letters Q) : CtI l yX7_firstFault wkX7_firstFault rmX7_firstFault D (tys4 cI cJ cZ cW) [.ref o] [(o, .inr (7, [.ref o_letters, .int v_length])), (o_letters, .inl (cI, 99, .inl v_letters))] (fun (r : Int32) (u : Unit) => Q r ) (fun (_ : Unit) => [(o, .inr (7, [.ref o_letters, .int v_length])), (o_letters, .inl (cI, 99, .inl v_letters))]) := by
  refine CtI.of (S := Unit) (y := yX7_firstFault) (Tc := wkX7_firstFault) (rm := rmX7_firstFault) (D := D) (tys := tys4 cI cJ cZ cW) (av := [.ref o]) (wc := [(o, .inr (7, [.ref o_letters, .int v_length])), (o_letters, .inl (cI, 99, .inl v_letters))]) (post := (fun (r : Int32) (u : Unit) => Q r )) (w1 := (fun (_ : Unit) => [(o, .inr (7, [.ref o_letters, .int v_length])), (o_letters, .inl (cI, 99, .inl v_letters))])) (cc := cX7_firstFault) (maxL := 4) RX7 rfl (by decide +kernel) rfl rfl [(0, .ref o)] rfl ?_
  intro p e s m args below meth c A Qm C hret
  have H38 : ∀ (n38 : Nat) (x1 : Int32) (x2 : Int32), wX7_firstFault_38 fu v_length v_letters Q n38 x1 x2 → G p l e rmX7_firstFault s m args below meth c D A 4 0 0 Qm [(o, .inr (7, [.ref o_letters, .int v_length])), (o_letters, .inl (cI, 99, .inl v_letters))] [(0, .ref o), (1, .int x1), (2, .int x2)] 38 [] := by
    intro n38
    induction n38 with
    | zero => intro x1 x2 h; exact False.elim h
    | succ n38 ih38 =>
      intro x1 x2 h
      unfold wX7_firstFault_38 at h
      refine g_iload_n C 2 2 x2 dX7_firstFault_38 rfl rfl ?_
      refine g_aload_n C 0 0 o dX7_firstFault_39 rfl rfl ?_
      refine g_get C 7 ix_7 0 _ rfl rfl 1 (by decide) wm_53 rfl (.int v_length) rfl dX7_firstFault_40 ?_
      refine g_icmp_ge C 75 dX7_firstFault_43 (by decide) (fun c7 => ?_) (fun c7 => ?_)
      · have h := wp_t c7 h
        refine g_bipush C (-9 : Int32) dX7_firstFault_75 rfl ?_
        exact hret _ () _ _ _ dX7_firstFault_77 h rfl
      have h := wp_f c7 h
      refine g_aload_n C 0 0 o dX7_firstFault_46 rfl rfl ?_
      refine g_iload_n C 2 2 x2 dX7_firstFault_47 rfl rfl ?_
      refine g_iload_n C 1 1 x1 dX7_firstFault_48 rfl rfl ?_
      refine g_callVi0 (As := [.int x2, .int x1]) (rest := []) C (c_X7_faultOfRun l D cI cJ cZ cW o o_letters v_length v_letters x2 x1 fu _ h) 2 gd_X7_27 rfl rfl rfl (by decide +kernel) ⟨Nat.le_of_ble_eq_true rfl, Nat.le_of_ble_eq_true rfl⟩ ⟨Nat.le_of_ble_eq_true rfl, Nat.le_of_ble_eq_true rfl⟩ 7 0 rfl rfl rfl rfl (Nat.le_of_ble_eq_true rfl) [0, 1] rfl rfl dX7_firstFault_49 (fun r8 h => ?_)
      refine g_istore_n C [(3, .int r8), (0, .ref o), (1, .int x1), (2, .int x2)] dX7_firstFault_52 rfl (by decide) rfl ?_
      refine g_iload_n C 3 0 r8 dX7_firstFault_53 rfl rfl ?_
      refine g_bipush C (-9 : Int32) dX7_firstFault_54 rfl ?_
      refine g_icmp_eq C 61 dX7_firstFault_56 (by decide) (fun c9 => ?_) (fun c9 => ?_)
      rotate_left
      · have h := wp_f c9 h
        refine g_iload_n C 3 0 r8 dX7_firstFault_59 rfl rfl ?_
        exact hret _ () _ _ _ dX7_firstFault_60 h rfl
      have h := wp_t c9 h
      refine g_iload_n C 1 2 x1 dX7_firstFault_61 rfl rfl ?_
      refine g_aload_n C 0 1 o dX7_firstFault_62 rfl rfl ?_
      refine g_iload_n C 2 3 x2 dX7_firstFault_63 rfl rfl ?_
      refine g_callVi0 (As := [.int x2]) (rest := [.int x1]) C (c_X7_ticksToldAt l D cI cJ cZ cW o o_letters v_length v_letters x2 fu _ h) 1 gd_X7_31 rfl rfl rfl (by decide +kernel) ⟨Nat.le_of_ble_eq_true rfl, Nat.le_of_ble_eq_true rfl⟩ ⟨Nat.le_of_ble_eq_true rfl, Nat.le_of_ble_eq_true rfl⟩ 7 0 rfl rfl rfl rfl (Nat.le_of_ble_eq_true rfl) [0, 1] rfl rfl dX7_firstFault_64 (fun r10 h => ?_)
      refine g_iadd C dX7_firstFault_67 ?_
      refine g_topi (fun y11 ey11 => ?_)
      have h := h y11 ey11
      refine g_istore_n C [(1, .int y11), (3, .int r8), (0, .ref o), (2, .int x2)] dX7_firstFault_68 rfl (by decide) rfl ?_
      refine g_iinc C 3 x2 (x2 + (3 : Int32)) [(2, .int (x2 + (3 : Int32))), (1, .int y11), (3, .int r8), (0, .ref o)] dX7_firstFault_69 rfl rfl (by decide) rfl ?_
      refine g_goto C 38 dX7_firstFault_72 (by decide) ?_
      refine g_lv [3, 1, 0] rfl ?_
      exact ih38  y11 (x2 + (3 : Int32)) h
  have H34 : wX7_firstFault_34 fu v_length v_letters Q  → G p l e rmX7_firstFault s m args below meth c D A 4 0 0 Qm [(o, .inr (7, [.ref o_letters, .int v_length])), (o_letters, .inl (cI, 99, .inl v_letters))] [(0, .ref o)] 34 [] := by
    intro  h
    unfold wX7_firstFault_34 at h
    refine g_iconst C (0 : Int32) dX7_firstFault_34 rfl ?_
    refine g_istore_n C [(1, .int (0 : Int32)), (0, .ref o)] dX7_firstFault_35 rfl (by decide) rfl ?_
    refine g_iconst C (2 : Int32) dX7_firstFault_36 rfl ?_
    refine g_istore_n C [(2, .int (2 : Int32)), (1, .int (0 : Int32)), (0, .ref o)] dX7_firstFault_37 rfl (by decide) rfl ?_
    refine g_lv [2, 1, 0] rfl ?_
    exact H38 fu  (0 : Int32) (2 : Int32) h
  unfold wp_X7_firstFault at h
  refine g_aload_n C 0 0 o dX7_firstFault_0 rfl rfl ?_
  refine g_iconst C (0 : Int32) dX7_firstFault_1 rfl ?_
  refine g_callVi0 (As := [.int (0 : Int32)]) (rest := []) C (c_X7_signAt l D cI cJ cZ cW o o_letters v_length v_letters (0 : Int32) fu _ h) 1 gd_X7_23 rfl rfl rfl (by decide +kernel) ⟨Nat.le_of_ble_eq_true rfl, Nat.le_of_ble_eq_true rfl⟩ ⟨Nat.le_of_ble_eq_true rfl, Nat.le_of_ble_eq_true rfl⟩ 7 0 rfl rfl rfl rfl (Nat.le_of_ble_eq_true rfl) [0, 1] rfl rfl dX7_firstFault_2 (fun r1 h => ?_)
  refine g_bipush C (83 : Int32) dX7_firstFault_5 rfl ?_
  refine g_icmp_eq C 12 dX7_firstFault_7 (by decide) (fun c2 => ?_) (fun c2 => ?_)
  rotate_left
  · have h := wp_f c2 h
    refine g_iconst C (0 : Int32) dX7_firstFault_10 rfl ?_
    exact hret _ () _ _ _ dX7_firstFault_11 h rfl
  have h := wp_t c2 h
  refine g_aload_n C 0 0 o dX7_firstFault_12 rfl rfl ?_
  refine g_iconst C (1 : Int32) dX7_firstFault_13 rfl ?_
  refine g_callVi0 (As := [.int (1 : Int32)]) (rest := []) C (c_X7_signAt l D cI cJ cZ cW o o_letters v_length v_letters (1 : Int32) fu _ h) 1 gd_X7_23 rfl rfl rfl (by decide +kernel) ⟨Nat.le_of_ble_eq_true rfl, Nat.le_of_ble_eq_true rfl⟩ ⟨Nat.le_of_ble_eq_true rfl, Nat.le_of_ble_eq_true rfl⟩ 7 0 rfl rfl rfl rfl (Nat.le_of_ble_eq_true rfl) [0, 1] rfl rfl dX7_firstFault_14 (fun r3 h => ?_)
  refine g_bipush C (48 : Int32) dX7_firstFault_17 rfl ?_
  refine g_icmp_eq C 34 dX7_firstFault_19 (by decide) (fun c4 => ?_) (fun c4 => ?_)
  · have h := wp_t c4 h
    refine g_lv [0] rfl ?_
    exact H34   h
  have h := wp_f c4 h
  refine g_aload_n C 0 0 o dX7_firstFault_22 rfl rfl ?_
  refine g_iconst C (1 : Int32) dX7_firstFault_23 rfl ?_
  refine g_callVi0 (As := [.int (1 : Int32)]) (rest := []) C (c_X7_signAt l D cI cJ cZ cW o o_letters v_length v_letters (1 : Int32) fu _ h) 1 gd_X7_23 rfl rfl rfl (by decide +kernel) ⟨Nat.le_of_ble_eq_true rfl, Nat.le_of_ble_eq_true rfl⟩ ⟨Nat.le_of_ble_eq_true rfl, Nat.le_of_ble_eq_true rfl⟩ 7 0 rfl rfl rfl rfl (Nat.le_of_ble_eq_true rfl) [0, 1] rfl rfl dX7_firstFault_24 (fun r5 h => ?_)
  refine g_bipush C (49 : Int32) dX7_firstFault_27 rfl ?_
  refine g_icmp_eq C 34 dX7_firstFault_29 (by decide) (fun c6 => ?_) (fun c6 => ?_)
  · have h := wp_t c6 h
    refine g_lv [0] rfl ?_
    exact H34   h
  have h := wp_f c6 h
  refine g_iconst C (1 : Int32) dX7_firstFault_32 rfl ?_
  exact hret _ () _ _ _ dX7_firstFault_33 h rfl
abbrev rmX7_layOn : Room := { frames := 3, cells := 0, slots := 0, locals := 64 }
def wX7_layOn_25 (fu : Nat) (v_length : Int32) (v_letters : (Nat → Int32)) (Q : Int32 → (Nat → Int32) → Prop) : Nat → Int32 → Int32 → Int32 → (Nat → Int32) → Prop
  | 0, _, _, _, _ => False
  | n0 + 1, x2, x3, v_a1_ticks, v_a1_levels => (if v_length ≤ x3 then Q v_a1_ticks v_a1_levels else wp_X7_ticksToldAt fu v_length v_letters x3 (fun (r5 : Int32) => wp_X8_extend fu x2 r5 v_a1_ticks v_a1_levels (fun (z6 : Int32) (z7 : (Nat → Int32)) => (∀ y8 : Int32, y8 = ((1 : Int32) - x2) → (wX7_layOn_25 fu v_length v_letters Q n0) y8 (x3 + (3 : Int32)) z6 z7))))
def wX7_layOn_15 (fu : Nat) (v_length : Int32) (v_letters : (Nat → Int32)) (Q : Int32 → (Nat → Int32) → Prop) (k0 : Int32) (v_a1_ticks : Int32) (v_a1_levels : (Nat → Int32)) : Prop := wp_X8_shorten fu (360 : Int32) v_a1_ticks (fun (z3 : Int32) => wX7_layOn_25 fu v_length v_letters Q fu k0 (2 : Int32) z3 v_a1_levels)
def wp_X7_layOn (fu : Nat) (v_length : Int32) (v_letters : (Nat → Int32)) (v_a1_ticks : Int32) (v_a1_levels : (Nat → Int32)) (Q : Int32 → (Nat → Int32) → Prop) : Prop := wp_X7_signAt fu v_length v_letters (1 : Int32) (fun (r1 : Int32) => (if r1 = (49 : Int32) then wX7_layOn_15 fu v_length v_letters Q (1 : Int32) v_a1_ticks v_a1_levels else wX7_layOn_15 fu v_length v_letters Q (0 : Int32) v_a1_ticks v_a1_levels))
set_option maxHeartbeats 4000000 in
set_option maxRecDepth 100000 in
theorem c_X7_layOn (l : Launch) (D : va_G) (cI cJ cZ cW : ClassId) (o o_letters o_a1 o_a1_levels : Nat) (v_length : Int32) (v_letters : (Nat → Int32)) (v_a1_ticks : Int32) (v_a1_levels : (Nat → Int32)) (fu : Nat) (Q : Int32 → (Nat → Int32) → Prop) (h : wp_X7_layOn fu v_length v_letters v_a1_ticks v_a1_levels Q) : CtV l yX7_layOn wkX7_layOn rmX7_layOn D (tys4 cI cJ cZ cW) [.ref o, .ref o_a1] [(o, .inr (7, [.ref o_letters, .int v_length])), (o_letters, .inl (cI, 99, .inl v_letters)), (o_a1, .inr (8, [.ref o_a1_levels, .int v_a1_ticks])), (o_a1_levels, .inl (cI, 360, .inl v_a1_levels))] (fun (u : Int32 × (Nat → Int32)) => Q u.1 u.2) (fun (u : Int32 × (Nat → Int32)) => [(o, .inr (7, [.ref o_letters, .int v_length])), (o_letters, .inl (cI, 99, .inl v_letters)), (o_a1, .inr (8, [.ref o_a1_levels, .int u.1])), (o_a1_levels, .inl (cI, 360, .inl u.2))]) := by
  refine CtV.of (S := Int32 × (Nat → Int32)) (y := yX7_layOn) (Tc := wkX7_layOn) (rm := rmX7_layOn) (D := D) (tys := tys4 cI cJ cZ cW) (av := [.ref o, .ref o_a1]) (wc := [(o, .inr (7, [.ref o_letters, .int v_length])), (o_letters, .inl (cI, 99, .inl v_letters)), (o_a1, .inr (8, [.ref o_a1_levels, .int v_a1_ticks])), (o_a1_levels, .inl (cI, 360, .inl v_a1_levels))]) (post := (fun (u : Int32 × (Nat → Int32)) => Q u.1 u.2)) (w1 := (fun (u : Int32 × (Nat → Int32)) => [(o, .inr (7, [.ref o_letters, .int v_length])), (o_letters, .inl (cI, 99, .inl v_letters)), (o_a1, .inr (8, [.ref o_a1_levels, .int u.1])), (o_a1_levels, .inl (cI, 360, .inl u.2))])) (cc := cX7_layOn) (maxL := 4) RX7 rfl (by decide +kernel) rfl rfl [(0, .ref o), (1, .ref o_a1)] rfl ?_
  intro p e s m args below meth c A Qm C hret
  have H25 : ∀ (n25 : Nat) (x2 : Int32) (x3 : Int32) (v_a1_ticks : Int32) (v_a1_levels : (Nat → Int32)), wX7_layOn_25 fu v_length v_letters Q n25 x2 x3 v_a1_ticks v_a1_levels → G p l e rmX7_layOn s m args below meth c D A 4 0 0 Qm [(o, .inr (7, [.ref o_letters, .int v_length])), (o_letters, .inl (cI, 99, .inl v_letters)), (o_a1, .inr (8, [.ref o_a1_levels, .int v_a1_ticks])), (o_a1_levels, .inl (cI, 360, .inl v_a1_levels))] [(0, .ref o), (1, .ref o_a1), (2, .int x2), (3, .int x3)] 25 [] := by
    intro n25
    induction n25 with
    | zero => intro x2 x3 v_a1_ticks v_a1_levels h; exact False.elim h
    | succ n25 ih25 =>
      intro x2 x3 v_a1_ticks v_a1_levels h
      unfold wX7_layOn_25 at h
      refine g_iload_n C 3 3 x3 dX7_layOn_25 rfl rfl ?_
      refine g_aload_n C 0 0 o dX7_layOn_26 rfl rfl ?_
      refine g_get C 7 ix_7 0 _ rfl rfl 1 (by decide) wm_53 rfl (.int v_length) rfl dX7_layOn_27 ?_
      refine g_icmp_ge C 53 dX7_layOn_30 (by decide) (fun c4 => ?_) (fun c4 => ?_)
      · have h := wp_t c4 h
        exact hret (v_a1_ticks, v_a1_levels) _ _ _ dX7_layOn_53 h rfl
      have h := wp_f c4 h
      refine g_aload_n C 1 1 o_a1 dX7_layOn_33 rfl rfl ?_
      refine g_iload_n C 2 2 x2 dX7_layOn_34 rfl rfl ?_
      refine g_aload_n C 0 0 o dX7_layOn_35 rfl rfl ?_
      refine g_iload_n C 3 3 x3 dX7_layOn_36 rfl rfl ?_
      refine g_callVi0 (As := [.int x3]) (rest := [.int x2, .ref o_a1]) C (c_X7_ticksToldAt l D cI cJ cZ cW o o_letters v_length v_letters x3 fu _ h) 1 gd_X7_31 rfl rfl rfl (by decide +kernel) ⟨Nat.le_of_ble_eq_true rfl, Nat.le_of_ble_eq_true rfl⟩ ⟨Nat.le_of_ble_eq_true rfl, Nat.le_of_ble_eq_true rfl⟩ 7 0 rfl rfl rfl rfl (Nat.le_of_ble_eq_true rfl) [0, 1] rfl rfl dX7_layOn_37 (fun r5 h => ?_)
      refine g_callVv (As := [.int x2, .int r5]) (rest := []) C (c_X8_extend l D cI cJ cZ cW o_a1 o_a1_levels v_a1_ticks v_a1_levels x2 r5 fu _ h) 2 gd_X7_40 rfl rfl rfl (by decide +kernel) ⟨Nat.le_of_ble_eq_true rfl, Nat.le_of_ble_eq_true rfl⟩ ⟨Nat.le_of_ble_eq_true rfl, Nat.le_of_ble_eq_true rfl⟩ 8 2 rfl rfl rfl rfl (Nat.le_of_ble_eq_true rfl) [2, 3] [none, none, some 0, some 1] rfl rfl rfl dX7_layOn_40 (fun u h => ?_)
      obtain ⟨z6, z7⟩ := u
      refine ⟨[(o, .inr (7, [.ref o_letters, .int v_length])), (o_letters, .inl (cI, 99, .inl v_letters)), (o_a1, .inr (8, [.ref o_a1_levels, .int z6])), (o_a1_levels, .inl (cI, 360, .inl z7))], rfl, rfl, rfl, ?_⟩
      refine g_iconst C (1 : Int32) dX7_layOn_43 rfl ?_
      refine g_iload_n C 2 2 x2 dX7_layOn_44 rfl rfl ?_
      refine g_isub C dX7_layOn_45 ?_
      refine g_topi (fun y8 ey8 => ?_)
      have h := h y8 ey8
      refine g_istore_n C [(2, .int y8), (0, .ref o), (1, .ref o_a1), (3, .int x3)] dX7_layOn_46 rfl (by decide) rfl ?_
      refine g_iinc C 3 x3 (x3 + (3 : Int32)) [(3, .int (x3 + (3 : Int32))), (2, .int y8), (0, .ref o), (1, .ref o_a1)] dX7_layOn_47 rfl rfl (by decide) rfl ?_
      refine g_goto C 25 dX7_layOn_50 (by decide) ?_
      refine g_lv [2, 3, 1, 0] rfl ?_
      exact ih25  y8 (x3 + (3 : Int32)) z6 z7 h
  have H15 : ∀ (k0 : Int32) (v_a1_ticks : Int32) (v_a1_levels : (Nat → Int32)), wX7_layOn_15 fu v_length v_letters Q k0 v_a1_ticks v_a1_levels → G p l e rmX7_layOn s m args below meth c D A 4 0 0 Qm [(o, .inr (7, [.ref o_letters, .int v_length])), (o_letters, .inl (cI, 99, .inl v_letters)), (o_a1, .inr (8, [.ref o_a1_levels, .int v_a1_ticks])), (o_a1_levels, .inl (cI, 360, .inl v_a1_levels))] [(0, .ref o), (1, .ref o_a1)] 15 [.int k0] := by
    intro k0 v_a1_ticks v_a1_levels h
    unfold wX7_layOn_15 at h
    refine g_istore_n C [(2, .int k0), (0, .ref o), (1, .ref o_a1)] dX7_layOn_15 rfl (by decide) rfl ?_
    refine g_aload_n C 1 2 o_a1 dX7_layOn_16 rfl rfl ?_
    refine g_sipush C (360 : Int32) dX7_layOn_17 rfl ?_
    refine g_callVv (As := [.int (360 : Int32)]) (rest := []) C (c_X8_shorten l D cI cJ cZ cW o_a1 o_a1_levels v_a1_ticks (360 : Int32) fu _ h) 1 gd_X7_34 rfl rfl rfl (by decide +kernel) ⟨Nat.le_of_ble_eq_true rfl, Nat.le_of_ble_eq_true rfl⟩ ⟨Nat.le_of_ble_eq_true rfl, Nat.le_of_ble_eq_true rfl⟩ 8 2 rfl rfl rfl rfl (Nat.le_of_ble_eq_true rfl) [2] [none, none, some 0, none] rfl rfl rfl dX7_layOn_20 (fun u h => ?_)
    obtain ⟨z3, rfl⟩ : ∃ z, z = u := ⟨_, rfl⟩
    refine ⟨[(o, .inr (7, [.ref o_letters, .int v_length])), (o_letters, .inl (cI, 99, .inl v_letters)), (o_a1, .inr (8, [.ref o_a1_levels, .int z3])), (o_a1_levels, .inl (cI, 360, .inl v_a1_levels))], rfl, rfl, rfl, ?_⟩
    refine g_iconst C (2 : Int32) dX7_layOn_23 rfl ?_
    refine g_istore_n C [(3, .int (2 : Int32)), (2, .int k0), (0, .ref o), (1, .ref o_a1)] dX7_layOn_24 rfl (by decide) rfl ?_
    refine g_lv [2, 3, 1, 0] rfl ?_
    exact H25 fu  k0 (2 : Int32) z3 v_a1_levels h
  unfold wp_X7_layOn at h
  refine g_aload_n C 0 0 o dX7_layOn_0 rfl rfl ?_
  refine g_iconst C (1 : Int32) dX7_layOn_1 rfl ?_
  refine g_callVi0 (As := [.int (1 : Int32)]) (rest := []) C (c_X7_signAt l D cI cJ cZ cW o o_letters v_length v_letters (1 : Int32) fu _ h) 1 gd_X7_23 rfl rfl rfl (by decide +kernel) ⟨Nat.le_of_ble_eq_true rfl, Nat.le_of_ble_eq_true rfl⟩ ⟨Nat.le_of_ble_eq_true rfl, Nat.le_of_ble_eq_true rfl⟩ 7 0 rfl rfl rfl rfl (Nat.le_of_ble_eq_true rfl) [0, 1] rfl rfl dX7_layOn_2 (fun r1 h => ?_)
  refine g_bipush C (49 : Int32) dX7_layOn_5 rfl ?_
  refine g_icmp_ne C 14 dX7_layOn_7 (by decide) (fun c2 => ?_) (fun c2 => ?_)
  · have h := wp_f c2 h
    refine g_iconst C (0 : Int32) dX7_layOn_14 rfl ?_
    refine g_lv [0, 1] rfl ?_
    exact H15  (0 : Int32) v_a1_ticks v_a1_levels h
  have h := wp_t c2 h
  refine g_iconst C (1 : Int32) dX7_layOn_10 rfl ?_
  refine g_goto C 15 dX7_layOn_11 (by decide) ?_
  refine g_lv [0, 1] rfl ?_
  exact H15  (1 : Int32) v_a1_ticks v_a1_levels h
