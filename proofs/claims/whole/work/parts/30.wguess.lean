abbrev rmX8_levelAt : Room := { frames := 0, cells := 0, slots := 0, locals := 0 }
def wp_X8_levelAt (fu : Nat) (v_ticks : Int32) (v_levels : (Nat → Int32)) (x1 : Int32) (Q : Int32 → Prop) : Prop := (if x1 < 0 then Q (-9 : Int32) else (if v_ticks ≤ x1 then Q (-9 : Int32) else (vp_in x1 360 ∧ Q (v_levels (ix x1)))))
set_option maxHeartbeats 4000000 in
set_option maxRecDepth 100000 in
theorem c_X8_levelAt (l : Launch) (D : va_G) (cI cJ cZ cW : ClassId) (o o_levels : Nat) (v_ticks : Int32) (v_levels : (Nat → Int32)) (x1 : Int32) (fu : Nat) (Q : Int32 → Prop) (h : wp_X8_levelAt fu v_ticks v_levels x1 Q) : CtI l yX8_levelAt wkX8_levelAt rmX8_levelAt D (tys4 cI cJ cZ cW) [.ref o, .int x1] [(o, .inr (8, [.ref o_levels, .int v_ticks])), (o_levels, .inl (cI, 360, .inl v_levels))] (fun (r : Int32) (u : Unit) => Q r ) (fun (_ : Unit) => [(o, .inr (8, [.ref o_levels, .int v_ticks])), (o_levels, .inl (cI, 360, .inl v_levels))]) := by
  refine CtI.of (S := Unit) (y := yX8_levelAt) (Tc := wkX8_levelAt) (rm := rmX8_levelAt) (D := D) (tys := tys4 cI cJ cZ cW) (av := [.ref o, .int x1]) (wc := [(o, .inr (8, [.ref o_levels, .int v_ticks])), (o_levels, .inl (cI, 360, .inl v_levels))]) (post := (fun (r : Int32) (u : Unit) => Q r )) (w1 := (fun (_ : Unit) => [(o, .inr (8, [.ref o_levels, .int v_ticks])), (o_levels, .inl (cI, 360, .inl v_levels))])) (cc := cX8_levelAt) (maxL := 2) RX8 rfl (by decide +kernel) rfl rfl [(0, .ref o), (1, .int x1)] rfl ?_
  intro p e s m args below meth c A Qm C hret
  unfold wp_X8_levelAt at h
  refine g_iload_n C 1 1 x1 dX8_levelAt_0 rfl rfl ?_
  refine g_if_lt C 21 dX8_levelAt_1 (by decide) (fun c1 => ?_) (fun c1 => ?_)
  · have h := wp_t c1 h
    refine g_bipush C (-9 : Int32) dX8_levelAt_21 rfl ?_
    exact hret _ () _ _ _ dX8_levelAt_23 h rfl
  have h := wp_f c1 h
  refine g_iload_n C 1 1 x1 dX8_levelAt_4 rfl rfl ?_
  refine g_aload_n C 0 0 o dX8_levelAt_5 rfl rfl ?_
  refine g_get C 8 ix_8 0 _ rfl rfl 1 (by decide) wm_58 rfl (.int v_ticks) rfl dX8_levelAt_6 ?_
  refine g_icmp_ge C 21 dX8_levelAt_9 (by decide) (fun c2 => ?_) (fun c2 => ?_)
  · have h := wp_t c2 h
    refine g_bipush C (-9 : Int32) dX8_levelAt_21 rfl ?_
    exact hret _ () _ _ _ dX8_levelAt_23 h rfl
  have h := wp_f c2 h
  refine g_aload_n C 0 0 o dX8_levelAt_12 rfl rfl ?_
  refine g_get C 8 ix_8 0 _ rfl rfl 0 (by decide) wm_57 rfl (.ref o_levels) rfl dX8_levelAt_13 ?_
  refine g_iload_n C 1 1 x1 dX8_levelAt_16 rfl rfl ?_
  obtain ⟨hi3, h⟩ := h
  refine g_iald C 1 0 cI 360 v_levels rfl rfl hi3 dX8_levelAt_17 ?_
  refine g_goto C 23 dX8_levelAt_18 (by decide) ?_
  exact hret _ () _ _ _ dX8_levelAt_23 h rfl
abbrev rmX8_shorten : Room := { frames := 1, cells := 0, slots := 0, locals := 21 }
def wp_X8_shorten (fu : Nat) (x1 : Int32) (v_ticks : Int32) (Q : Int32 → Prop) : Prop := Q (imx (0 : Int32) (v_ticks - x1))
set_option maxHeartbeats 4000000 in
set_option maxRecDepth 100000 in
theorem c_X8_shorten (l : Launch) (D : va_G) (cI cJ cZ cW : ClassId) (o o_levels : Nat) (v_ticks : Int32) (x1 : Int32) (fu : Nat) (Q : Int32 → Prop) (h : wp_X8_shorten fu x1 v_ticks Q) : CtV l yX8_shorten wkX8_shorten rmX8_shorten D (tys4 cI cJ cZ cW) [.ref o, .int x1] [(o, .inr (8, [.ref o_levels, .int v_ticks]))] (fun (u : Int32) => Q u) (fun (u : Int32) => [(o, .inr (8, [.ref o_levels, .int u]))]) := by
  refine CtV.of (S := Int32) (y := yX8_shorten) (Tc := wkX8_shorten) (rm := rmX8_shorten) (D := D) (tys := tys4 cI cJ cZ cW) (av := [.ref o, .int x1]) (wc := [(o, .inr (8, [.ref o_levels, .int v_ticks]))]) (post := (fun (u : Int32) => Q u)) (w1 := (fun (u : Int32) => [(o, .inr (8, [.ref o_levels, .int u]))])) (cc := cX8_shorten) (maxL := 2) RX8 rfl (by decide +kernel) rfl rfl [(0, .ref o), (1, .int x1)] rfl ?_
  intro p e s m args below meth c A Qm C hret
  unfold wp_X8_shorten at h
  refine g_aload_n C 0 0 o dX8_shorten_0 rfl rfl ?_
  refine g_iconst C (0 : Int32) dX8_shorten_1 rfl ?_
  refine g_aload_n C 0 0 o dX8_shorten_2 rfl rfl ?_
  refine g_get C 8 ix_8 0 _ rfl rfl 1 (by decide) wm_58 rfl (.int v_ticks) rfl dX8_shorten_3 ?_
  refine g_iload_n C 1 1 x1 dX8_shorten_6 rfl rfl ?_
  refine g_isub C dX8_shorten_7 ?_
  refine g_max C rfl rfl (Nat.zero_le _) (Nat.zero_le _) wm_227 wm_228 wm_229 wm_230 dX8_shorten_8 ?_
  refine g_put C 8 ix_8 0 _ rfl rfl 1 (by decide) wm_58 rfl tyX8 tyX8_ok nmX8 rfl rfl rfl (Nat.le_of_ble_eq_true rfl) dX8_shorten_11 [(o, .inr (8, [.ref o_levels, .int (imx (0 : Int32) (v_ticks - x1))]))] rfl ?_
  exact hret (imx (0 : Int32) (v_ticks - x1)) _ _ _ dX8_shorten_14 h rfl
abbrev rmX8_has : Room := { frames := 0, cells := 0, slots := 0, locals := 0 }
def wp_X8_has (fu : Nat) (v_ticks : Int32) (x1 : Int32) (Q : Int32 → Prop) : Prop := (if x1 < 0 then Q (0 : Int32) else (if v_ticks ≤ x1 then Q (0 : Int32) else Q (1 : Int32)))
set_option maxHeartbeats 4000000 in
set_option maxRecDepth 100000 in
theorem c_X8_has (l : Launch) (D : va_G) (cI cJ cZ cW : ClassId) (o o_levels : Nat) (v_ticks : Int32) (x1 : Int32) (fu : Nat) (Q : Int32 → Prop) (h : wp_X8_has fu v_ticks x1 Q) : CtI l yX8_has wkX8_has rmX8_has D (tys4 cI cJ cZ cW) [.ref o, .int x1] [(o, .inr (8, [.ref o_levels, .int v_ticks]))] (fun (r : Int32) (u : Unit) => (r = 0 ∨ r = 1) ∧ (fun (r : Int32) (u : Unit) => Q r ) r u) (fun (_ : Unit) => [(o, .inr (8, [.ref o_levels, .int v_ticks]))]) := by
  refine CtI.ofZ (S := Unit) (y := yX8_has) (Tc := wkX8_has) (rm := rmX8_has) (D := D) (tys := tys4 cI cJ cZ cW) (av := [.ref o, .int x1]) (wc := [(o, .inr (8, [.ref o_levels, .int v_ticks]))]) (post := (fun (r : Int32) (u : Unit) => Q r )) (w1 := (fun (_ : Unit) => [(o, .inr (8, [.ref o_levels, .int v_ticks]))])) (cc := cX8_has) (maxL := 2) RX8 rfl (by decide +kernel) rfl rfl [(0, .ref o), (1, .int x1)] rfl ?_
  intro p e s m args below meth c A Qm C hret
  unfold wp_X8_has at h
  refine g_iload_n C 1 1 x1 dX8_has_0 rfl rfl ?_
  refine g_if_lt C 16 dX8_has_1 (by decide) (fun c1 => ?_) (fun c1 => ?_)
  · have h := wp_t c1 h
    refine g_iconst C (0 : Int32) dX8_has_16 rfl ?_
    exact hret _ () _ _ _ (Or.inl rfl) dX8_has_17 h rfl
  have h := wp_f c1 h
  refine g_iload_n C 1 1 x1 dX8_has_4 rfl rfl ?_
  refine g_aload_n C 0 0 o dX8_has_5 rfl rfl ?_
  refine g_get C 8 ix_8 0 _ rfl rfl 1 (by decide) wm_58 rfl (.int v_ticks) rfl dX8_has_6 ?_
  refine g_icmp_ge C 16 dX8_has_9 (by decide) (fun c2 => ?_) (fun c2 => ?_)
  · have h := wp_t c2 h
    refine g_iconst C (0 : Int32) dX8_has_16 rfl ?_
    exact hret _ () _ _ _ (Or.inl rfl) dX8_has_17 h rfl
  have h := wp_f c2 h
  refine g_iconst C (1 : Int32) dX8_has_12 rfl ?_
  refine g_goto C 17 dX8_has_13 (by decide) ?_
  exact hret _ () _ _ _ (Or.inr rfl) dX8_has_17 h rfl
abbrev rmX8_turnOver : Room := { frames := 1, cells := 0, slots := 0, locals := 21 }
def wp_X8_turnOver (fu : Nat) (v_ticks : Int32) (x1 : Int32) (v_levels : (Nat → Int32)) (Q : (Nat → Int32) → Prop) : Prop := wp_X8_has fu v_ticks x1 (fun (r1 : Int32) => (if r1 = 0 then Q v_levels else (vp_in x1 360 ∧ (vp_in x1 360 ∧ Q (upd v_levels (ix x1) ((1 : Int32) - (v_levels (ix x1))))))))
set_option maxHeartbeats 4000000 in
set_option maxRecDepth 100000 in
theorem c_X8_turnOver (l : Launch) (D : va_G) (cI cJ cZ cW : ClassId) (o o_levels : Nat) (v_ticks : Int32) (v_levels : (Nat → Int32)) (x1 : Int32) (fu : Nat) (Q : (Nat → Int32) → Prop) (h : wp_X8_turnOver fu v_ticks x1 v_levels Q) : CtV l yX8_turnOver wkX8_turnOver rmX8_turnOver D (tys4 cI cJ cZ cW) [.ref o, .int x1] [(o, .inr (8, [.ref o_levels, .int v_ticks])), (o_levels, .inl (cI, 360, .inl v_levels))] (fun (u : (Nat → Int32)) => Q u) (fun (u : (Nat → Int32)) => [(o, .inr (8, [.ref o_levels, .int v_ticks])), (o_levels, .inl (cI, 360, .inl u))]) := by
  refine CtV.of (S := (Nat → Int32)) (y := yX8_turnOver) (Tc := wkX8_turnOver) (rm := rmX8_turnOver) (D := D) (tys := tys4 cI cJ cZ cW) (av := [.ref o, .int x1]) (wc := [(o, .inr (8, [.ref o_levels, .int v_ticks])), (o_levels, .inl (cI, 360, .inl v_levels))]) (post := (fun (u : (Nat → Int32)) => Q u)) (w1 := (fun (u : (Nat → Int32)) => [(o, .inr (8, [.ref o_levels, .int v_ticks])), (o_levels, .inl (cI, 360, .inl u))])) (cc := cX8_turnOver) (maxL := 2) RX8 rfl (by decide +kernel) rfl rfl [(0, .ref o), (1, .int x1)] rfl ?_
  intro p e s m args below meth c A Qm C hret
  unfold wp_X8_turnOver at h
  refine g_aload_n C 0 0 o dX8_turnOver_0 rfl rfl ?_
  refine g_iload_n C 1 1 x1 dX8_turnOver_1 rfl rfl ?_
  refine g_callVi0 (As := [.int x1]) (rest := []) C (c_X8_has l D cI cJ cZ cW o o_levels v_ticks x1 fu _ h) 1 gd_X8_47 rfl rfl rfl (by decide +kernel) ⟨Nat.le_of_ble_eq_true rfl, Nat.le_of_ble_eq_true rfl⟩ ⟨Nat.le_of_ble_eq_true rfl, Nat.le_of_ble_eq_true rfl⟩ 8 0 rfl rfl rfl rfl (Nat.le_of_ble_eq_true rfl) [0] rfl rfl dX8_turnOver_2 (fun r1 h => ?_)
  obtain ⟨hzr1, h⟩ := h
  refine g_if_eq C 22 dX8_turnOver_5 (by decide) (fun c2 => ?_) (fun c2 => ?_)
  · have h := wp_t c2 h
    exact hret v_levels _ _ _ dX8_turnOver_22 h rfl
  have h := wp_f c2 h
  refine g_aload_n C 0 0 o dX8_turnOver_8 rfl rfl ?_
  refine g_get C 8 ix_8 0 _ rfl rfl 0 (by decide) wm_57 rfl (.ref o_levels) rfl dX8_turnOver_9 ?_
  refine g_iload_n C 1 1 x1 dX8_turnOver_12 rfl rfl ?_
  refine g_iconst C (1 : Int32) dX8_turnOver_13 rfl ?_
  refine g_aload_n C 0 0 o dX8_turnOver_14 rfl rfl ?_
  refine g_get C 8 ix_8 0 _ rfl rfl 0 (by decide) wm_57 rfl (.ref o_levels) rfl dX8_turnOver_15 ?_
  refine g_iload_n C 1 1 x1 dX8_turnOver_18 rfl rfl ?_
  obtain ⟨hi3, h⟩ := h
  refine g_iald C 1 0 cI 360 v_levels rfl rfl hi3 dX8_turnOver_19 ?_
  refine g_isub C dX8_turnOver_20 ?_
  obtain ⟨hi4, h⟩ := h
  refine g_iast C 1 0 cI 360 v_levels rfl rfl hi4 dX8_turnOver_21 [(o, .inr (8, [.ref o_levels, .int v_ticks])), (o_levels, .inl (cI, 360, .inl (upd v_levels (ix x1) ((1 : Int32) - (v_levels (ix x1))))))] rfl ?_
  exact hret (upd v_levels (ix x1) ((1 : Int32) - (v_levels (ix x1)))) _ _ _ dX8_turnOver_22 h rfl
abbrev rmX8_extend : Room := { frames := 0, cells := 0, slots := 0, locals := 0 }
def wX8_extend_2 (fu : Nat) (x1 : Int32) (x2 : Int32) (Q : Int32 → (Nat → Int32) → Prop) : Nat → Int32 → Int32 → (Nat → Int32) → Prop
  | 0, _, _, _ => False
  | n0 + 1, x3, v_ticks, v_levels => (if x2 ≤ x3 then Q v_ticks v_levels else (if (360 : Int32) ≤ v_ticks then Q v_ticks v_levels else (vp_in v_ticks 360 ∧ (wX8_extend_2 fu x1 x2 Q n0) (x3 + (1 : Int32)) (v_ticks + (1 : Int32)) (upd v_levels (ix v_ticks) x1))))
def wp_X8_extend (fu : Nat) (x1 : Int32) (x2 : Int32) (v_ticks : Int32) (v_levels : (Nat → Int32)) (Q : Int32 → (Nat → Int32) → Prop) : Prop := wX8_extend_2 fu x1 x2 Q fu (0 : Int32) v_ticks v_levels
set_option maxHeartbeats 4000000 in
set_option maxRecDepth 100000 in
theorem c_X8_extend (l : Launch) (D : va_G) (cI cJ cZ cW : ClassId) (o o_levels : Nat) (v_ticks : Int32) (v_levels : (Nat → Int32)) (x1 : Int32) (x2 : Int32) (fu : Nat) (Q : Int32 → (Nat → Int32) → Prop) (h : wp_X8_extend fu x1 x2 v_ticks v_levels Q) : CtV l yX8_extend wkX8_extend rmX8_extend D (tys4 cI cJ cZ cW) [.ref o, .int x1, .int x2] [(o, .inr (8, [.ref o_levels, .int v_ticks])), (o_levels, .inl (cI, 360, .inl v_levels))] (fun (u : Int32 × (Nat → Int32)) => Q u.1 u.2) (fun (u : Int32 × (Nat → Int32)) => [(o, .inr (8, [.ref o_levels, .int u.1])), (o_levels, .inl (cI, 360, .inl u.2))]) := by
  refine CtV.of (S := Int32 × (Nat → Int32)) (y := yX8_extend) (Tc := wkX8_extend) (rm := rmX8_extend) (D := D) (tys := tys4 cI cJ cZ cW) (av := [.ref o, .int x1, .int x2]) (wc := [(o, .inr (8, [.ref o_levels, .int v_ticks])), (o_levels, .inl (cI, 360, .inl v_levels))]) (post := (fun (u : Int32 × (Nat → Int32)) => Q u.1 u.2)) (w1 := (fun (u : Int32 × (Nat → Int32)) => [(o, .inr (8, [.ref o_levels, .int u.1])), (o_levels, .inl (cI, 360, .inl u.2))])) (cc := cX8_extend) (maxL := 4) RX8 rfl (by decide +kernel) rfl rfl [(0, .ref o), (1, .int x1), (2, .int x2)] rfl ?_
  intro p e s m args below meth c A Qm C hret
  have H2 : ∀ (n2 : Nat) (x3 : Int32) (v_ticks : Int32) (v_levels : (Nat → Int32)), wX8_extend_2 fu x1 x2 Q n2 x3 v_ticks v_levels → G p l e rmX8_extend s m args below meth c D A 4 0 0 Qm [(o, .inr (8, [.ref o_levels, .int v_ticks])), (o_levels, .inl (cI, 360, .inl v_levels))] [(0, .ref o), (1, .int x1), (2, .int x2), (3, .int x3)] 2 [] := by
    intro n2
    induction n2 with
    | zero => intro x3 v_ticks v_levels h; exact False.elim h
    | succ n2 ih2 =>
      intro x3 v_ticks v_levels h
      unfold wX8_extend_2 at h
      refine g_iload_n C 3 3 x3 dX8_extend_2 rfl rfl ?_
      refine g_iload_n C 2 2 x2 dX8_extend_3 rfl rfl ?_
      refine g_icmp_ge C 43 dX8_extend_4 (by decide) (fun c1 => ?_) (fun c1 => ?_)
      · have h := wp_t c1 h
        exact hret (v_ticks, v_levels) _ _ _ dX8_extend_43 h rfl
      have h := wp_f c1 h
      refine g_aload_n C 0 0 o dX8_extend_7 rfl rfl ?_
      refine g_get C 8 ix_8 0 _ rfl rfl 1 (by decide) wm_58 rfl (.int v_ticks) rfl dX8_extend_8 ?_
      refine g_sipush C (360 : Int32) dX8_extend_11 rfl ?_
      refine g_icmp_ge C 43 dX8_extend_14 (by decide) (fun c2 => ?_) (fun c2 => ?_)
      · have h := wp_t c2 h
        exact hret (v_ticks, v_levels) _ _ _ dX8_extend_43 h rfl
      have h := wp_f c2 h
      refine g_aload_n C 0 0 o dX8_extend_17 rfl rfl ?_
      refine g_get C 8 ix_8 0 _ rfl rfl 0 (by decide) wm_57 rfl (.ref o_levels) rfl dX8_extend_18 ?_
      refine g_aload_n C 0 0 o dX8_extend_21 rfl rfl ?_
      refine g_get C 8 ix_8 0 _ rfl rfl 1 (by decide) wm_58 rfl (.int v_ticks) rfl dX8_extend_22 ?_
      refine g_iload_n C 1 1 x1 dX8_extend_25 rfl rfl ?_
      obtain ⟨hi3, h⟩ := h
      refine g_iast C 1 0 cI 360 v_levels rfl rfl hi3 dX8_extend_26 [(o, .inr (8, [.ref o_levels, .int v_ticks])), (o_levels, .inl (cI, 360, .inl (upd v_levels (ix v_ticks) x1)))] rfl ?_
      refine g_aload_n C 0 0 o dX8_extend_27 rfl rfl ?_
      refine g_dup C dX8_extend_28 rfl ?_
      refine g_get C 8 ix_8 0 _ rfl rfl 1 (by decide) wm_58 rfl (.int v_ticks) rfl dX8_extend_29 ?_
      refine g_iconst C (1 : Int32) dX8_extend_32 rfl ?_
      refine g_iadd C dX8_extend_33 ?_
      refine g_put C 8 ix_8 0 _ rfl rfl 1 (by decide) wm_58 rfl tyX8 tyX8_ok nmX8 rfl rfl rfl (Nat.le_of_ble_eq_true rfl) dX8_extend_34 [(o, .inr (8, [.ref o_levels, .int (v_ticks + (1 : Int32))])), (o_levels, .inl (cI, 360, .inl (upd v_levels (ix v_ticks) x1)))] rfl ?_
      refine g_iinc C 3 x3 (x3 + (1 : Int32)) [(3, .int (x3 + (1 : Int32))), (0, .ref o), (1, .int x1), (2, .int x2)] dX8_extend_37 rfl rfl (by decide) rfl ?_
      refine g_goto C 2 dX8_extend_40 (by decide) ?_
      refine g_lv [1, 2, 3, 0] rfl ?_
      exact ih2  (x3 + (1 : Int32)) (v_ticks + (1 : Int32)) (upd v_levels (ix v_ticks) x1) h
  unfold wp_X8_extend at h
  refine g_iconst C (0 : Int32) dX8_extend_0 rfl ?_
  refine g_istore_n C [(3, .int (0 : Int32)), (0, .ref o), (1, .int x1), (2, .int x2)] dX8_extend_1 rfl (by decide) rfl ?_
  refine g_lv [1, 2, 3, 0] rfl ?_
  exact H2 fu  (0 : Int32) v_ticks v_levels h
abbrev rmX1_isToldBy : Room := { frames := 0, cells := 0, slots := 0, locals := 0 }
def wp_X1_isToldBy (fu : Nat) (x1 : Int32) (v_bit : Int32) (v_data : Int32) (v_idle : Int32) (v_parity : Int32) (v_stops : Int32) (Q : Int32 → Int32 → Int32 → Int32 → Int32 → Int32 → Prop) : Prop := (∀ y1 : Int32, y1 = (x1 / (10000 : Int32)) → (∀ y2 : Int32, y2 = (irm (x1 / (1000 : Int32)) (10 : Int32)) → (∀ y3 : Int32, y3 = (irm (x1 / (100 : Int32)) (10 : Int32)) → (∀ y4 : Int32, y4 = (irm (x1 / (10 : Int32)) (10 : Int32)) → (∀ y5 : Int32, y5 = (irm x1 (10 : Int32)) → (if x1 < 0 then Q (0 : Int32) v_bit v_data v_idle v_parity v_stops else (if y1 < (1 : Int32) then Q (0 : Int32) v_bit v_data v_idle v_parity v_stops else (if (16 : Int32) < y1 then Q (0 : Int32) v_bit v_data v_idle v_parity v_stops else (if y2 < (5 : Int32) then Q (0 : Int32) v_bit v_data v_idle v_parity v_stops else (if y2 ≤ (8 : Int32) then (if (2 : Int32) < y3 then Q (0 : Int32) v_bit v_data v_idle v_parity v_stops else (if y4 < (1 : Int32) then Q (0 : Int32) v_bit v_data v_idle v_parity v_stops else (if (2 : Int32) < y4 then Q (0 : Int32) v_bit v_data v_idle v_parity v_stops else (if y5 ≤ (1 : Int32) then Q (1 : Int32) y1 y2 ((1 : Int32) - y5) y3 y4 else Q (0 : Int32) v_bit v_data v_idle v_parity v_stops)))) else Q (0 : Int32) v_bit v_data v_idle v_parity v_stops))))))))))
set_option maxHeartbeats 4000000 in
set_option maxRecDepth 100000 in
theorem c_X1_isToldBy (l : Launch) (D : va_G) (cI cJ cZ cW : ClassId) (o : Nat) (v_bit : Int32) (v_data : Int32) (v_parity : Int32) (v_stops : Int32) (v_idle : Int32) (x1 : Int32) (fu : Nat) (Q : Int32 → Int32 → Int32 → Int32 → Int32 → Int32 → Prop) (h : wp_X1_isToldBy fu x1 v_bit v_data v_idle v_parity v_stops Q) : CtI l yX1_isToldBy wkX1_isToldBy rmX1_isToldBy D (tys4 cI cJ cZ cW) [.ref o, .int x1] [(o, .inr (1, [.int v_bit, .int v_data, .int v_parity, .int v_stops, .int v_idle]))] (fun (r : Int32) (u : Int32 × Int32 × Int32 × Int32 × Int32) => (r = 0 ∨ r = 1) ∧ (fun (r : Int32) (u : Int32 × Int32 × Int32 × Int32 × Int32) => Q r u.1 u.2.1 u.2.2.1 u.2.2.2.1 u.2.2.2.2) r u) (fun (u : Int32 × Int32 × Int32 × Int32 × Int32) => [(o, .inr (1, [.int u.1, .int u.2.1, .int u.2.2.2.1, .int u.2.2.2.2, .int u.2.2.1]))]) := by
  refine CtI.ofZ (S := Int32 × Int32 × Int32 × Int32 × Int32) (y := yX1_isToldBy) (Tc := wkX1_isToldBy) (rm := rmX1_isToldBy) (D := D) (tys := tys4 cI cJ cZ cW) (av := [.ref o, .int x1]) (wc := [(o, .inr (1, [.int v_bit, .int v_data, .int v_parity, .int v_stops, .int v_idle]))]) (post := (fun (r : Int32) (u : Int32 × Int32 × Int32 × Int32 × Int32) => Q r u.1 u.2.1 u.2.2.1 u.2.2.2.1 u.2.2.2.2)) (w1 := (fun (u : Int32 × Int32 × Int32 × Int32 × Int32) => [(o, .inr (1, [.int u.1, .int u.2.1, .int u.2.2.2.1, .int u.2.2.2.2, .int u.2.2.1]))])) (cc := cX1_isToldBy) (maxL := 7) RX1 rfl (by decide +kernel) rfl rfl [(0, .ref o), (1, .int x1)] rfl ?_
  intro p e s m args below meth c A Qm C hret
  unfold wp_X1_isToldBy at h
  refine g_iload_n C 1 1 x1 dX1_isToldBy_0 rfl rfl ?_
  refine g_sipush C (10000 : Int32) dX1_isToldBy_1 rfl ?_
  refine g_idiv C (by decide) dX1_isToldBy_4 ?_
  refine g_topi (fun y1 ey1 => ?_)
  have h := h y1 ey1
  refine g_istore_n C [(2, .int y1), (0, .ref o), (1, .int x1)] dX1_isToldBy_5 rfl (by decide) rfl ?_
  refine g_iload_n C 1 2 x1 dX1_isToldBy_6 rfl rfl ?_
  refine g_sipush C (1000 : Int32) dX1_isToldBy_7 rfl ?_
  refine g_idiv C (by decide) dX1_isToldBy_10 ?_
  refine g_bipush C (10 : Int32) dX1_isToldBy_11 rfl ?_
  refine g_irem C (by decide) dX1_isToldBy_13 ?_
  refine g_topi (fun y2 ey2 => ?_)
  have h := h y2 ey2
  refine g_istore_n C [(3, .int y2), (2, .int y1), (0, .ref o), (1, .int x1)] dX1_isToldBy_14 rfl (by decide) rfl ?_
  refine g_iload_n C 1 3 x1 dX1_isToldBy_15 rfl rfl ?_
  refine g_bipush C (100 : Int32) dX1_isToldBy_16 rfl ?_
  refine g_idiv C (by decide) dX1_isToldBy_18 ?_
  refine g_bipush C (10 : Int32) dX1_isToldBy_19 rfl ?_
  refine g_irem C (by decide) dX1_isToldBy_21 ?_
  refine g_topi (fun y3 ey3 => ?_)
  have h := h y3 ey3
  refine g_istore C [(4, .int y3), (3, .int y2), (2, .int y1), (0, .ref o), (1, .int x1)] dX1_isToldBy_22 (by decide) rfl ?_
  refine g_iload_n C 1 4 x1 dX1_isToldBy_24 rfl rfl ?_
  refine g_bipush C (10 : Int32) dX1_isToldBy_25 rfl ?_
  refine g_idiv C (by decide) dX1_isToldBy_27 ?_
  refine g_bipush C (10 : Int32) dX1_isToldBy_28 rfl ?_
  refine g_irem C (by decide) dX1_isToldBy_30 ?_
  refine g_topi (fun y4 ey4 => ?_)
  have h := h y4 ey4
  refine g_istore C [(5, .int y4), (4, .int y3), (3, .int y2), (2, .int y1), (0, .ref o), (1, .int x1)] dX1_isToldBy_31 (by decide) rfl ?_
  refine g_iload_n C 1 5 x1 dX1_isToldBy_33 rfl rfl ?_
  refine g_bipush C (10 : Int32) dX1_isToldBy_34 rfl ?_
  refine g_irem C (by decide) dX1_isToldBy_36 ?_
  refine g_topi (fun y5 ey5 => ?_)
  have h := h y5 ey5
  refine g_istore C [(6, .int y5), (5, .int y4), (4, .int y3), (3, .int y2), (2, .int y1), (0, .ref o), (1, .int x1)] dX1_isToldBy_37 (by decide) rfl ?_
  refine g_iload_n C 1 6 x1 dX1_isToldBy_39 rfl rfl ?_
  refine g_if_lt C 65 dX1_isToldBy_40 (by decide) (fun c6 => ?_) (fun c6 => ?_)
  · have h := wp_t c6 h
    refine g_iconst C (0 : Int32) dX1_isToldBy_65 rfl ?_
    exact hret _ (v_bit, v_data, v_idle, v_parity, v_stops) _ _ _ (Or.inl rfl) dX1_isToldBy_66 h rfl
  have h := wp_f c6 h
  refine g_iload_n C 2 4 y1 dX1_isToldBy_43 rfl rfl ?_
  refine g_iconst C (1 : Int32) dX1_isToldBy_44 rfl ?_
  refine g_icmp_lt C 65 dX1_isToldBy_45 (by decide) (fun c7 => ?_) (fun c7 => ?_)
  · have h := wp_t c7 h
    refine g_iconst C (0 : Int32) dX1_isToldBy_65 rfl ?_
    exact hret _ (v_bit, v_data, v_idle, v_parity, v_stops) _ _ _ (Or.inl rfl) dX1_isToldBy_66 h rfl
  have h := wp_f c7 h
  refine g_iload_n C 2 4 y1 dX1_isToldBy_48 rfl rfl ?_
  refine g_bipush C (16 : Int32) dX1_isToldBy_49 rfl ?_
  refine g_icmp_gt C 65 dX1_isToldBy_51 (by decide) (fun c8 => ?_) (fun c8 => ?_)
  · have h := wp_t c8 h
    refine g_iconst C (0 : Int32) dX1_isToldBy_65 rfl ?_
    exact hret _ (v_bit, v_data, v_idle, v_parity, v_stops) _ _ _ (Or.inl rfl) dX1_isToldBy_66 h rfl
  have h := wp_f c8 h
  refine g_iload_n C 3 3 y2 dX1_isToldBy_54 rfl rfl ?_
  refine g_iconst C (5 : Int32) dX1_isToldBy_55 rfl ?_
  refine g_icmp_lt C 65 dX1_isToldBy_56 (by decide) (fun c9 => ?_) (fun c9 => ?_)
  · have h := wp_t c9 h
    refine g_iconst C (0 : Int32) dX1_isToldBy_65 rfl ?_
    exact hret _ (v_bit, v_data, v_idle, v_parity, v_stops) _ _ _ (Or.inl rfl) dX1_isToldBy_66 h rfl
  have h := wp_f c9 h
  refine g_iload_n C 3 3 y2 dX1_isToldBy_59 rfl rfl ?_
  refine g_bipush C (8 : Int32) dX1_isToldBy_60 rfl ?_
  refine g_icmp_le C 67 dX1_isToldBy_62 (by decide) (fun c10 => ?_) (fun c10 => ?_)
  rotate_left
  · have h := wp_f c10 h
    refine g_iconst C (0 : Int32) dX1_isToldBy_65 rfl ?_
    exact hret _ (v_bit, v_data, v_idle, v_parity, v_stops) _ _ _ (Or.inl rfl) dX1_isToldBy_66 h rfl
  have h := wp_t c10 h
  refine g_iload C 4 2 y3 dX1_isToldBy_67 rfl ?_
  refine g_iconst C (2 : Int32) dX1_isToldBy_69 rfl ?_
  refine g_icmp_gt C 91 dX1_isToldBy_70 (by decide) (fun c11 => ?_) (fun c11 => ?_)
  · have h := wp_t c11 h
    refine g_iconst C (0 : Int32) dX1_isToldBy_91 rfl ?_
    exact hret _ (v_bit, v_data, v_idle, v_parity, v_stops) _ _ _ (Or.inl rfl) dX1_isToldBy_92 h rfl
  have h := wp_f c11 h
  refine g_iload C 5 1 y4 dX1_isToldBy_73 rfl ?_
  refine g_iconst C (1 : Int32) dX1_isToldBy_75 rfl ?_
  refine g_icmp_lt C 91 dX1_isToldBy_76 (by decide) (fun c12 => ?_) (fun c12 => ?_)
  · have h := wp_t c12 h
    refine g_iconst C (0 : Int32) dX1_isToldBy_91 rfl ?_
    exact hret _ (v_bit, v_data, v_idle, v_parity, v_stops) _ _ _ (Or.inl rfl) dX1_isToldBy_92 h rfl
  have h := wp_f c12 h
  refine g_iload C 5 1 y4 dX1_isToldBy_79 rfl ?_
  refine g_iconst C (2 : Int32) dX1_isToldBy_81 rfl ?_
  refine g_icmp_gt C 91 dX1_isToldBy_82 (by decide) (fun c13 => ?_) (fun c13 => ?_)
  · have h := wp_t c13 h
    refine g_iconst C (0 : Int32) dX1_isToldBy_91 rfl ?_
    exact hret _ (v_bit, v_data, v_idle, v_parity, v_stops) _ _ _ (Or.inl rfl) dX1_isToldBy_92 h rfl
  have h := wp_f c13 h
  refine g_iload C 6 0 y5 dX1_isToldBy_85 rfl ?_
  refine g_iconst C (1 : Int32) dX1_isToldBy_87 rfl ?_
  refine g_icmp_le C 93 dX1_isToldBy_88 (by decide) (fun c14 => ?_) (fun c14 => ?_)
  rotate_left
  · have h := wp_f c14 h
    refine g_iconst C (0 : Int32) dX1_isToldBy_91 rfl ?_
    exact hret _ (v_bit, v_data, v_idle, v_parity, v_stops) _ _ _ (Or.inl rfl) dX1_isToldBy_92 h rfl
  have h := wp_t c14 h
  refine g_aload_n C 0 5 o dX1_isToldBy_93 rfl rfl ?_
  refine g_iload_n C 2 4 y1 dX1_isToldBy_94 rfl rfl ?_
  refine g_put C 1 ix_1 0 _ rfl rfl 0 (by decide) wm_84 rfl tyX1 tyX1_ok nmX1 rfl rfl rfl (Nat.le_of_ble_eq_true rfl) dX1_isToldBy_95 [(o, .inr (1, [.int y1, .int v_data, .int v_parity, .int v_stops, .int v_idle]))] rfl ?_
  refine g_aload_n C 0 5 o dX1_isToldBy_98 rfl rfl ?_
  refine g_iload_n C 3 3 y2 dX1_isToldBy_99 rfl rfl ?_
  refine g_put C 1 ix_1 0 _ rfl rfl 1 (by decide) wm_85 rfl tyX1 tyX1_ok nmX1 rfl rfl rfl (Nat.le_of_ble_eq_true rfl) dX1_isToldBy_100 [(o, .inr (1, [.int y1, .int y2, .int v_parity, .int v_stops, .int v_idle]))] rfl ?_
  refine g_aload_n C 0 5 o dX1_isToldBy_103 rfl rfl ?_
  refine g_iload C 4 2 y3 dX1_isToldBy_104 rfl ?_
  refine g_put C 1 ix_1 0 _ rfl rfl 2 (by decide) wm_86 rfl tyX1 tyX1_ok nmX1 rfl rfl rfl (Nat.le_of_ble_eq_true rfl) dX1_isToldBy_106 [(o, .inr (1, [.int y1, .int y2, .int y3, .int v_stops, .int v_idle]))] rfl ?_
  refine g_aload_n C 0 5 o dX1_isToldBy_109 rfl rfl ?_
  refine g_iload C 5 1 y4 dX1_isToldBy_110 rfl ?_
  refine g_put C 1 ix_1 0 _ rfl rfl 3 (by decide) wm_87 rfl tyX1 tyX1_ok nmX1 rfl rfl rfl (Nat.le_of_ble_eq_true rfl) dX1_isToldBy_112 [(o, .inr (1, [.int y1, .int y2, .int y3, .int y4, .int v_idle]))] rfl ?_
  refine g_aload_n C 0 5 o dX1_isToldBy_115 rfl rfl ?_
  refine g_iconst C (1 : Int32) dX1_isToldBy_116 rfl ?_
  refine g_iload C 6 0 y5 dX1_isToldBy_117 rfl ?_
  refine g_isub C dX1_isToldBy_119 ?_
  refine g_put C 1 ix_1 0 _ rfl rfl 4 (by decide) wm_88 rfl tyX1 tyX1_ok nmX1 rfl rfl rfl (Nat.le_of_ble_eq_true rfl) dX1_isToldBy_120 [(o, .inr (1, [.int y1, .int y2, .int y3, .int y4, .int ((1 : Int32) - y5)]))] rfl ?_
  refine g_iconst C (1 : Int32) dX1_isToldBy_123 rfl ?_
  exact hret _ (y1, y2, ((1 : Int32) - y5), y3, y4) _ _ _ (Or.inr rfl) dX1_isToldBy_124 h rfl
abbrev rmX1_become : Room := { frames := 0, cells := 0, slots := 0, locals := 0 }
def wp_X1_become (fu : Nat) (x1 : Int32) (v_bit : Int32) (v_data : Int32) (v_idle : Int32) (v_parity : Int32) (v_stops : Int32) (Q : Int32 → Int32 → Int32 → Int32 → Int32 → Prop) : Prop := Q ((x1 / (48 : Int32)) + (1 : Int32)) ((irm (x1 / (12 : Int32)) (4 : Int32)) + (5 : Int32)) ((1 : Int32) - (irm x1 (2 : Int32))) (irm (x1 / (4 : Int32)) (3 : Int32)) ((irm (x1 / (2 : Int32)) (2 : Int32)) + (1 : Int32))
set_option maxHeartbeats 4000000 in
set_option maxRecDepth 100000 in
theorem c_X1_become (l : Launch) (D : va_G) (cI cJ cZ cW : ClassId) (o : Nat) (v_bit : Int32) (v_data : Int32) (v_parity : Int32) (v_stops : Int32) (v_idle : Int32) (x1 : Int32) (fu : Nat) (Q : Int32 → Int32 → Int32 → Int32 → Int32 → Prop) (h : wp_X1_become fu x1 v_bit v_data v_idle v_parity v_stops Q) : CtV l yX1_become wkX1_become rmX1_become D (tys4 cI cJ cZ cW) [.ref o, .int x1] [(o, .inr (1, [.int v_bit, .int v_data, .int v_parity, .int v_stops, .int v_idle]))] (fun (u : Int32 × Int32 × Int32 × Int32 × Int32) => Q u.1 u.2.1 u.2.2.1 u.2.2.2.1 u.2.2.2.2) (fun (u : Int32 × Int32 × Int32 × Int32 × Int32) => [(o, .inr (1, [.int u.1, .int u.2.1, .int u.2.2.2.1, .int u.2.2.2.2, .int u.2.2.1]))]) := by
  refine CtV.of (S := Int32 × Int32 × Int32 × Int32 × Int32) (y := yX1_become) (Tc := wkX1_become) (rm := rmX1_become) (D := D) (tys := tys4 cI cJ cZ cW) (av := [.ref o, .int x1]) (wc := [(o, .inr (1, [.int v_bit, .int v_data, .int v_parity, .int v_stops, .int v_idle]))]) (post := (fun (u : Int32 × Int32 × Int32 × Int32 × Int32) => Q u.1 u.2.1 u.2.2.1 u.2.2.2.1 u.2.2.2.2)) (w1 := (fun (u : Int32 × Int32 × Int32 × Int32 × Int32) => [(o, .inr (1, [.int u.1, .int u.2.1, .int u.2.2.2.1, .int u.2.2.2.2, .int u.2.2.1]))])) (cc := cX1_become) (maxL := 2) RX1 rfl (by decide +kernel) rfl rfl [(0, .ref o), (1, .int x1)] rfl ?_
  intro p e s m args below meth c A Qm C hret
  unfold wp_X1_become at h
  refine g_aload_n C 0 0 o dX1_become_0 rfl rfl ?_
  refine g_iload_n C 1 1 x1 dX1_become_1 rfl rfl ?_
  refine g_bipush C (48 : Int32) dX1_become_2 rfl ?_
  refine g_idiv C (by decide) dX1_become_4 ?_
  refine g_iconst C (1 : Int32) dX1_become_5 rfl ?_
  refine g_iadd C dX1_become_6 ?_
  refine g_put C 1 ix_1 0 _ rfl rfl 0 (by decide) wm_84 rfl tyX1 tyX1_ok nmX1 rfl rfl rfl (Nat.le_of_ble_eq_true rfl) dX1_become_7 [(o, .inr (1, [.int ((x1 / (48 : Int32)) + (1 : Int32)), .int v_data, .int v_parity, .int v_stops, .int v_idle]))] rfl ?_
  refine g_aload_n C 0 0 o dX1_become_10 rfl rfl ?_
  refine g_iload_n C 1 1 x1 dX1_become_11 rfl rfl ?_
  refine g_bipush C (12 : Int32) dX1_become_12 rfl ?_
  refine g_idiv C (by decide) dX1_become_14 ?_
  refine g_iconst C (4 : Int32) dX1_become_15 rfl ?_
  refine g_irem C (by decide) dX1_become_16 ?_
  refine g_iconst C (5 : Int32) dX1_become_17 rfl ?_
  refine g_iadd C dX1_become_18 ?_
  refine g_put C 1 ix_1 0 _ rfl rfl 1 (by decide) wm_85 rfl tyX1 tyX1_ok nmX1 rfl rfl rfl (Nat.le_of_ble_eq_true rfl) dX1_become_19 [(o, .inr (1, [.int ((x1 / (48 : Int32)) + (1 : Int32)), .int ((irm (x1 / (12 : Int32)) (4 : Int32)) + (5 : Int32)), .int v_parity, .int v_stops, .int v_idle]))] rfl ?_
  refine g_aload_n C 0 0 o dX1_become_22 rfl rfl ?_
  refine g_iload_n C 1 1 x1 dX1_become_23 rfl rfl ?_
  refine g_iconst C (4 : Int32) dX1_become_24 rfl ?_
  refine g_idiv C (by decide) dX1_become_25 ?_
  refine g_iconst C (3 : Int32) dX1_become_26 rfl ?_
  refine g_irem C (by decide) dX1_become_27 ?_
  refine g_put C 1 ix_1 0 _ rfl rfl 2 (by decide) wm_86 rfl tyX1 tyX1_ok nmX1 rfl rfl rfl (Nat.le_of_ble_eq_true rfl) dX1_become_28 [(o, .inr (1, [.int ((x1 / (48 : Int32)) + (1 : Int32)), .int ((irm (x1 / (12 : Int32)) (4 : Int32)) + (5 : Int32)), .int (irm (x1 / (4 : Int32)) (3 : Int32)), .int v_stops, .int v_idle]))] rfl ?_
  refine g_aload_n C 0 0 o dX1_become_31 rfl rfl ?_
  refine g_iload_n C 1 1 x1 dX1_become_32 rfl rfl ?_
  refine g_iconst C (2 : Int32) dX1_become_33 rfl ?_
  refine g_idiv C (by decide) dX1_become_34 ?_
  refine g_iconst C (2 : Int32) dX1_become_35 rfl ?_
  refine g_irem C (by decide) dX1_become_36 ?_
  refine g_iconst C (1 : Int32) dX1_become_37 rfl ?_
  refine g_iadd C dX1_become_38 ?_
  refine g_put C 1 ix_1 0 _ rfl rfl 3 (by decide) wm_87 rfl tyX1 tyX1_ok nmX1 rfl rfl rfl (Nat.le_of_ble_eq_true rfl) dX1_become_39 [(o, .inr (1, [.int ((x1 / (48 : Int32)) + (1 : Int32)), .int ((irm (x1 / (12 : Int32)) (4 : Int32)) + (5 : Int32)), .int (irm (x1 / (4 : Int32)) (3 : Int32)), .int ((irm (x1 / (2 : Int32)) (2 : Int32)) + (1 : Int32)), .int v_idle]))] rfl ?_
  refine g_aload_n C 0 0 o dX1_become_42 rfl rfl ?_
  refine g_iconst C (1 : Int32) dX1_become_43 rfl ?_
  refine g_iload_n C 1 1 x1 dX1_become_44 rfl rfl ?_
  refine g_iconst C (2 : Int32) dX1_become_45 rfl ?_
  refine g_irem C (by decide) dX1_become_46 ?_
  refine g_isub C dX1_become_47 ?_
  refine g_put C 1 ix_1 0 _ rfl rfl 4 (by decide) wm_88 rfl tyX1 tyX1_ok nmX1 rfl rfl rfl (Nat.le_of_ble_eq_true rfl) dX1_become_48 [(o, .inr (1, [.int ((x1 / (48 : Int32)) + (1 : Int32)), .int ((irm (x1 / (12 : Int32)) (4 : Int32)) + (5 : Int32)), .int (irm (x1 / (4 : Int32)) (3 : Int32)), .int ((irm (x1 / (2 : Int32)) (2 : Int32)) + (1 : Int32)), .int ((1 : Int32) - (irm x1 (2 : Int32)))]))] rfl ?_
  exact hret (((x1 / (48 : Int32)) + (1 : Int32)), ((irm (x1 / (12 : Int32)) (4 : Int32)) + (5 : Int32)), ((1 : Int32) - (irm x1 (2 : Int32))), (irm (x1 / (4 : Int32)) (3 : Int32)), ((irm (x1 / (2 : Int32)) (2 : Int32)) + (1 : Int32))) _ _ _ dX1_become_51 h rfl
abbrev rmX1_code : Room := { frames := 0, cells := 0, slots := 0, locals := 0 }
def wp_X1_code (fu : Nat) (v_bit : Int32) (v_data : Int32) (v_idle : Int32) (v_parity : Int32) (v_stops : Int32) (Q : Int32 → Prop) : Prop := Q ((((((v_bit * (10000 : Int32)) + (v_data * (1000 : Int32))) + (v_parity * (100 : Int32))) + (v_stops * (10 : Int32))) + (1 : Int32)) - v_idle)
set_option maxHeartbeats 4000000 in
set_option maxRecDepth 100000 in
theorem c_X1_code (l : Launch) (D : va_G) (cI cJ cZ cW : ClassId) (o : Nat) (v_bit : Int32) (v_data : Int32) (v_parity : Int32) (v_stops : Int32) (v_idle : Int32) (fu : Nat) (Q : Int32 → Prop) (h : wp_X1_code fu v_bit v_data v_idle v_parity v_stops Q) : CtI l yX1_code wkX1_code rmX1_code D (tys4 cI cJ cZ cW) [.ref o] [(o, .inr (1, [.int v_bit, .int v_data, .int v_parity, .int v_stops, .int v_idle]))] (fun (r : Int32) (u : Unit) => Q r ) (fun (_ : Unit) => [(o, .inr (1, [.int v_bit, .int v_data, .int v_parity, .int v_stops, .int v_idle]))]) := by
  refine CtI.of (S := Unit) (y := yX1_code) (Tc := wkX1_code) (rm := rmX1_code) (D := D) (tys := tys4 cI cJ cZ cW) (av := [.ref o]) (wc := [(o, .inr (1, [.int v_bit, .int v_data, .int v_parity, .int v_stops, .int v_idle]))]) (post := (fun (r : Int32) (u : Unit) => Q r )) (w1 := (fun (_ : Unit) => [(o, .inr (1, [.int v_bit, .int v_data, .int v_parity, .int v_stops, .int v_idle]))])) (cc := cX1_code) (maxL := 1) RX1 rfl (by decide +kernel) rfl rfl [(0, .ref o)] rfl ?_
  intro p e s m args below meth c A Qm C hret
  unfold wp_X1_code at h
  refine g_aload_n C 0 0 o dX1_code_0 rfl rfl ?_
  refine g_get C 1 ix_1 0 _ rfl rfl 0 (by decide) wm_84 rfl (.int v_bit) rfl dX1_code_1 ?_
  refine g_sipush C (10000 : Int32) dX1_code_4 rfl ?_
  refine g_imul C dX1_code_7 ?_
  refine g_aload_n C 0 0 o dX1_code_8 rfl rfl ?_
  refine g_get C 1 ix_1 0 _ rfl rfl 1 (by decide) wm_85 rfl (.int v_data) rfl dX1_code_9 ?_
  refine g_sipush C (1000 : Int32) dX1_code_12 rfl ?_
  refine g_imul C dX1_code_15 ?_
  refine g_iadd C dX1_code_16 ?_
  refine g_aload_n C 0 0 o dX1_code_17 rfl rfl ?_
  refine g_get C 1 ix_1 0 _ rfl rfl 2 (by decide) wm_86 rfl (.int v_parity) rfl dX1_code_18 ?_
  refine g_bipush C (100 : Int32) dX1_code_21 rfl ?_
  refine g_imul C dX1_code_23 ?_
  refine g_iadd C dX1_code_24 ?_
  refine g_aload_n C 0 0 o dX1_code_25 rfl rfl ?_
  refine g_get C 1 ix_1 0 _ rfl rfl 3 (by decide) wm_87 rfl (.int v_stops) rfl dX1_code_26 ?_
  refine g_bipush C (10 : Int32) dX1_code_29 rfl ?_
  refine g_imul C dX1_code_31 ?_
  refine g_iadd C dX1_code_32 ?_
  refine g_iconst C (1 : Int32) dX1_code_33 rfl ?_
  refine g_iadd C dX1_code_34 ?_
  refine g_aload_n C 0 0 o dX1_code_35 rfl rfl ?_
  refine g_get C 1 ix_1 0 _ rfl rfl 4 (by decide) wm_88 rfl (.int v_idle) rfl dX1_code_36 ?_
  refine g_isub C dX1_code_39 ?_
  exact hret _ () _ _ _ dX1_code_40 h rfl
abbrev rmX1_bitsOfFrame : Room := { frames := 0, cells := 0, slots := 0, locals := 0 }
def wp_X1_bitsOfFrame (fu : Nat) (v_data : Int32) (v_parity : Int32) (v_stops : Int32) (Q : Int32 → Prop) : Prop := (if v_parity = 0 then Q ((((1 : Int32) + v_data) + (0 : Int32)) + v_stops) else Q ((((1 : Int32) + v_data) + (1 : Int32)) + v_stops))
set_option maxHeartbeats 4000000 in
set_option maxRecDepth 100000 in
theorem c_X1_bitsOfFrame (l : Launch) (D : va_G) (cI cJ cZ cW : ClassId) (o : Nat) (v_bit : Int32) (v_data : Int32) (v_parity : Int32) (v_stops : Int32) (v_idle : Int32) (fu : Nat) (Q : Int32 → Prop) (h : wp_X1_bitsOfFrame fu v_data v_parity v_stops Q) : CtI l yX1_bitsOfFrame wkX1_bitsOfFrame rmX1_bitsOfFrame D (tys4 cI cJ cZ cW) [.ref o] [(o, .inr (1, [.int v_bit, .int v_data, .int v_parity, .int v_stops, .int v_idle]))] (fun (r : Int32) (u : Unit) => Q r ) (fun (_ : Unit) => [(o, .inr (1, [.int v_bit, .int v_data, .int v_parity, .int v_stops, .int v_idle]))]) := by
  refine CtI.of (S := Unit) (y := yX1_bitsOfFrame) (Tc := wkX1_bitsOfFrame) (rm := rmX1_bitsOfFrame) (D := D) (tys := tys4 cI cJ cZ cW) (av := [.ref o]) (wc := [(o, .inr (1, [.int v_bit, .int v_data, .int v_parity, .int v_stops, .int v_idle]))]) (post := (fun (r : Int32) (u : Unit) => Q r )) (w1 := (fun (_ : Unit) => [(o, .inr (1, [.int v_bit, .int v_data, .int v_parity, .int v_stops, .int v_idle]))])) (cc := cX1_bitsOfFrame) (maxL := 1) RX1 rfl (by decide +kernel) rfl rfl [(0, .ref o)] rfl ?_
  intro p e s m args below meth c A Qm C hret
  unfold wp_X1_bitsOfFrame at h
  refine g_iconst C (1 : Int32) dX1_bitsOfFrame_0 rfl ?_
  refine g_aload_n C 0 0 o dX1_bitsOfFrame_1 rfl rfl ?_
  refine g_get C 1 ix_1 0 _ rfl rfl 1 (by decide) wm_85 rfl (.int v_data) rfl dX1_bitsOfFrame_2 ?_
  refine g_iadd C dX1_bitsOfFrame_5 ?_
  refine g_aload_n C 0 0 o dX1_bitsOfFrame_6 rfl rfl ?_
  refine g_get C 1 ix_1 0 _ rfl rfl 2 (by decide) wm_86 rfl (.int v_parity) rfl dX1_bitsOfFrame_7 ?_
  refine g_if_ne C 17 dX1_bitsOfFrame_10 (by decide) (fun c1 => ?_) (fun c1 => ?_)
  · have h := wp_f c1 h
    refine g_iconst C (1 : Int32) dX1_bitsOfFrame_17 rfl ?_
    refine g_iadd C dX1_bitsOfFrame_18 ?_
    refine g_aload_n C 0 0 o dX1_bitsOfFrame_19 rfl rfl ?_
    refine g_get C 1 ix_1 0 _ rfl rfl 3 (by decide) wm_87 rfl (.int v_stops) rfl dX1_bitsOfFrame_20 ?_
    refine g_iadd C dX1_bitsOfFrame_23 ?_
    exact hret _ () _ _ _ dX1_bitsOfFrame_24 h rfl
  have h := wp_t c1 h
  refine g_iconst C (0 : Int32) dX1_bitsOfFrame_13 rfl ?_
  refine g_goto C 18 dX1_bitsOfFrame_14 (by decide) ?_
  refine g_iadd C dX1_bitsOfFrame_18 ?_
  refine g_aload_n C 0 0 o dX1_bitsOfFrame_19 rfl rfl ?_
  refine g_get C 1 ix_1 0 _ rfl rfl 3 (by decide) wm_87 rfl (.int v_stops) rfl dX1_bitsOfFrame_20 ?_
  refine g_iadd C dX1_bitsOfFrame_23 ?_
  exact hret _ () _ _ _ dX1_bitsOfFrame_24 h rfl
abbrev rmX1_ticksOfLetter : Room := { frames := 1, cells := 0, slots := 0, locals := 20 }
def wp_X1_ticksOfLetter (fu : Nat) (v_bit : Int32) (v_data : Int32) (v_parity : Int32) (v_stops : Int32) (Q : Int32 → Prop) : Prop := wp_X1_bitsOfFrame fu v_data v_parity v_stops (fun (r1 : Int32) => Q (v_bit * ((1 : Int32) + r1)))
set_option maxHeartbeats 4000000 in
set_option maxRecDepth 100000 in
theorem c_X1_ticksOfLetter (l : Launch) (D : va_G) (cI cJ cZ cW : ClassId) (o : Nat) (v_bit : Int32) (v_data : Int32) (v_parity : Int32) (v_stops : Int32) (v_idle : Int32) (fu : Nat) (Q : Int32 → Prop) (h : wp_X1_ticksOfLetter fu v_bit v_data v_parity v_stops Q) : CtI l yX1_ticksOfLetter wkX1_ticksOfLetter rmX1_ticksOfLetter D (tys4 cI cJ cZ cW) [.ref o] [(o, .inr (1, [.int v_bit, .int v_data, .int v_parity, .int v_stops, .int v_idle]))] (fun (r : Int32) (u : Unit) => Q r ) (fun (_ : Unit) => [(o, .inr (1, [.int v_bit, .int v_data, .int v_parity, .int v_stops, .int v_idle]))]) := by
  refine CtI.of (S := Unit) (y := yX1_ticksOfLetter) (Tc := wkX1_ticksOfLetter) (rm := rmX1_ticksOfLetter) (D := D) (tys := tys4 cI cJ cZ cW) (av := [.ref o]) (wc := [(o, .inr (1, [.int v_bit, .int v_data, .int v_parity, .int v_stops, .int v_idle]))]) (post := (fun (r : Int32) (u : Unit) => Q r )) (w1 := (fun (_ : Unit) => [(o, .inr (1, [.int v_bit, .int v_data, .int v_parity, .int v_stops, .int v_idle]))])) (cc := cX1_ticksOfLetter) (maxL := 1) RX1 rfl (by decide +kernel) rfl rfl [(0, .ref o)] rfl ?_
  intro p e s m args below meth c A Qm C hret
  unfold wp_X1_ticksOfLetter at h
  refine g_aload_n C 0 0 o dX1_ticksOfLetter_0 rfl rfl ?_
  refine g_get C 1 ix_1 0 _ rfl rfl 0 (by decide) wm_84 rfl (.int v_bit) rfl dX1_ticksOfLetter_1 ?_
  refine g_iconst C (1 : Int32) dX1_ticksOfLetter_4 rfl ?_
  refine g_aload_n C 0 0 o dX1_ticksOfLetter_5 rfl rfl ?_
  refine g_callVi0 (As := []) (rest := [.int (1 : Int32), .int v_bit]) C (c_X1_bitsOfFrame l D cI cJ cZ cW o v_bit v_data v_parity v_stops v_idle fu _ h) 0 gd_X1_27 rfl rfl rfl (by decide +kernel) ⟨Nat.le_of_ble_eq_true rfl, Nat.le_of_ble_eq_true rfl⟩ ⟨Nat.le_of_ble_eq_true rfl, Nat.le_of_ble_eq_true rfl⟩ 1 0 rfl rfl rfl rfl (Nat.le_of_ble_eq_true rfl) [0] rfl rfl dX1_ticksOfLetter_6 (fun r1 h => ?_)
  refine g_iadd C dX1_ticksOfLetter_9 ?_
  refine g_imul C dX1_ticksOfLetter_10 ?_
  exact hret _ () _ _ _ dX1_ticksOfLetter_11 h rfl
abbrev rmX1_tickOfBit : Room := { frames := 0, cells := 0, slots := 0, locals := 0 }
def wp_X1_tickOfBit (fu : Nat) (v_bit : Int32) (x1 : Int32) (x2 : Int32) (Q : Int32 → Prop) : Prop := Q ((x1 + (v_bit * x2)) + (v_bit / (2 : Int32)))
set_option maxHeartbeats 4000000 in
set_option maxRecDepth 100000 in
theorem c_X1_tickOfBit (l : Launch) (D : va_G) (cI cJ cZ cW : ClassId) (o : Nat) (v_bit : Int32) (v_data : Int32) (v_parity : Int32) (v_stops : Int32) (v_idle : Int32) (x1 : Int32) (x2 : Int32) (fu : Nat) (Q : Int32 → Prop) (h : wp_X1_tickOfBit fu v_bit x1 x2 Q) : CtI l yX1_tickOfBit wkX1_tickOfBit rmX1_tickOfBit D (tys4 cI cJ cZ cW) [.ref o, .int x1, .int x2] [(o, .inr (1, [.int v_bit, .int v_data, .int v_parity, .int v_stops, .int v_idle]))] (fun (r : Int32) (u : Unit) => Q r ) (fun (_ : Unit) => [(o, .inr (1, [.int v_bit, .int v_data, .int v_parity, .int v_stops, .int v_idle]))]) := by
  refine CtI.of (S := Unit) (y := yX1_tickOfBit) (Tc := wkX1_tickOfBit) (rm := rmX1_tickOfBit) (D := D) (tys := tys4 cI cJ cZ cW) (av := [.ref o, .int x1, .int x2]) (wc := [(o, .inr (1, [.int v_bit, .int v_data, .int v_parity, .int v_stops, .int v_idle]))]) (post := (fun (r : Int32) (u : Unit) => Q r )) (w1 := (fun (_ : Unit) => [(o, .inr (1, [.int v_bit, .int v_data, .int v_parity, .int v_stops, .int v_idle]))])) (cc := cX1_tickOfBit) (maxL := 3) RX1 rfl (by decide +kernel) rfl rfl [(0, .ref o), (1, .int x1), (2, .int x2)] rfl ?_
  intro p e s m args below meth c A Qm C hret
  unfold wp_X1_tickOfBit at h
  refine g_iload_n C 1 1 x1 dX1_tickOfBit_0 rfl rfl ?_
  refine g_aload_n C 0 0 o dX1_tickOfBit_1 rfl rfl ?_
  refine g_get C 1 ix_1 0 _ rfl rfl 0 (by decide) wm_84 rfl (.int v_bit) rfl dX1_tickOfBit_2 ?_
  refine g_iload_n C 2 2 x2 dX1_tickOfBit_5 rfl rfl ?_
  refine g_imul C dX1_tickOfBit_6 ?_
  refine g_iadd C dX1_tickOfBit_7 ?_
  refine g_aload_n C 0 0 o dX1_tickOfBit_8 rfl rfl ?_
  refine g_get C 1 ix_1 0 _ rfl rfl 0 (by decide) wm_84 rfl (.int v_bit) rfl dX1_tickOfBit_9 ?_
  refine g_iconst C (2 : Int32) dX1_tickOfBit_12 rfl ?_
  refine g_idiv C (by decide) dX1_tickOfBit_13 ?_
  refine g_iadd C dX1_tickOfBit_14 ?_
  exact hret _ () _ _ _ dX1_tickOfBit_15 h rfl
abbrev rmX1_levelOf : Room := { frames := 0, cells := 0, slots := 0, locals := 0 }
def wp_X1_levelOf (fu : Nat) (v_idle : Int32) (x1 : Int32) (Q : Int32 → Prop) : Prop := (if x1 = (1 : Int32) then Q v_idle else Q ((1 : Int32) - v_idle))
set_option maxHeartbeats 4000000 in
set_option maxRecDepth 100000 in
theorem c_X1_levelOf (l : Launch) (D : va_G) (cI cJ cZ cW : ClassId) (o : Nat) (v_bit : Int32) (v_data : Int32) (v_parity : Int32) (v_stops : Int32) (v_idle : Int32) (x1 : Int32) (fu : Nat) (Q : Int32 → Prop) (h : wp_X1_levelOf fu v_idle x1 Q) : CtI l yX1_levelOf wkX1_levelOf rmX1_levelOf D (tys4 cI cJ cZ cW) [.ref o, .int x1] [(o, .inr (1, [.int v_bit, .int v_data, .int v_parity, .int v_stops, .int v_idle]))] (fun (r : Int32) (u : Unit) => Q r ) (fun (_ : Unit) => [(o, .inr (1, [.int v_bit, .int v_data, .int v_parity, .int v_stops, .int v_idle]))]) := by
  refine CtI.of (S := Unit) (y := yX1_levelOf) (Tc := wkX1_levelOf) (rm := rmX1_levelOf) (D := D) (tys := tys4 cI cJ cZ cW) (av := [.ref o, .int x1]) (wc := [(o, .inr (1, [.int v_bit, .int v_data, .int v_parity, .int v_stops, .int v_idle]))]) (post := (fun (r : Int32) (u : Unit) => Q r )) (w1 := (fun (_ : Unit) => [(o, .inr (1, [.int v_bit, .int v_data, .int v_parity, .int v_stops, .int v_idle]))])) (cc := cX1_levelOf) (maxL := 2) RX1 rfl (by decide +kernel) rfl rfl [(0, .ref o), (1, .int x1)] rfl ?_
  intro p e s m args below meth c A Qm C hret
  unfold wp_X1_levelOf at h
  refine g_iload_n C 1 1 x1 dX1_levelOf_0 rfl rfl ?_
  refine g_iconst C (1 : Int32) dX1_levelOf_1 rfl ?_
  refine g_icmp_ne C 12 dX1_levelOf_2 (by decide) (fun c1 => ?_) (fun c1 => ?_)
  rotate_left
  · have h := wp_t c1 h
    refine g_aload_n C 0 0 o dX1_levelOf_5 rfl rfl ?_
    refine g_get C 1 ix_1 0 _ rfl rfl 4 (by decide) wm_88 rfl (.int v_idle) rfl dX1_levelOf_6 ?_
    refine g_goto C 18 dX1_levelOf_9 (by decide) ?_
    exact hret _ () _ _ _ dX1_levelOf_18 h rfl
  have h := wp_f c1 h
  refine g_iconst C (1 : Int32) dX1_levelOf_12 rfl ?_
  refine g_aload_n C 0 0 o dX1_levelOf_13 rfl rfl ?_
  refine g_get C 1 ix_1 0 _ rfl rfl 4 (by decide) wm_88 rfl (.int v_idle) rfl dX1_levelOf_14 ?_
  refine g_isub C dX1_levelOf_17 ?_
  exact hret _ () _ _ _ dX1_levelOf_18 h rfl
abbrev rmX1_parityFor : Room := { frames := 0, cells := 0, slots := 0, locals := 0 }
def wp_X1_parityFor (fu : Nat) (v_parity : Int32) (x1 : Int32) (Q : Int32 → Prop) : Prop := (if v_parity = (1 : Int32) then Q (irm x1 (2 : Int32)) else Q ((1 : Int32) - (irm x1 (2 : Int32))))
set_option maxHeartbeats 4000000 in
set_option maxRecDepth 100000 in
theorem c_X1_parityFor (l : Launch) (D : va_G) (cI cJ cZ cW : ClassId) (o : Nat) (v_bit : Int32) (v_data : Int32) (v_parity : Int32) (v_stops : Int32) (v_idle : Int32) (x1 : Int32) (fu : Nat) (Q : Int32 → Prop) (h : wp_X1_parityFor fu v_parity x1 Q) : CtI l yX1_parityFor wkX1_parityFor rmX1_parityFor D (tys4 cI cJ cZ cW) [.ref o, .int x1] [(o, .inr (1, [.int v_bit, .int v_data, .int v_parity, .int v_stops, .int v_idle]))] (fun (r : Int32) (u : Unit) => Q r ) (fun (_ : Unit) => [(o, .inr (1, [.int v_bit, .int v_data, .int v_parity, .int v_stops, .int v_idle]))]) := by
  refine CtI.of (S := Unit) (y := yX1_parityFor) (Tc := wkX1_parityFor) (rm := rmX1_parityFor) (D := D) (tys := tys4 cI cJ cZ cW) (av := [.ref o, .int x1]) (wc := [(o, .inr (1, [.int v_bit, .int v_data, .int v_parity, .int v_stops, .int v_idle]))]) (post := (fun (r : Int32) (u : Unit) => Q r )) (w1 := (fun (_ : Unit) => [(o, .inr (1, [.int v_bit, .int v_data, .int v_parity, .int v_stops, .int v_idle]))])) (cc := cX1_parityFor) (maxL := 2) RX1 rfl (by decide +kernel) rfl rfl [(0, .ref o), (1, .int x1)] rfl ?_
  intro p e s m args below meth c A Qm C hret
  unfold wp_X1_parityFor at h
  refine g_aload_n C 0 0 o dX1_parityFor_0 rfl rfl ?_
  refine g_get C 1 ix_1 0 _ rfl rfl 2 (by decide) wm_86 rfl (.int v_parity) rfl dX1_parityFor_1 ?_
  refine g_iconst C (1 : Int32) dX1_parityFor_4 rfl ?_
  refine g_icmp_ne C 14 dX1_parityFor_5 (by decide) (fun c1 => ?_) (fun c1 => ?_)
  rotate_left
  · have h := wp_t c1 h
    refine g_iload_n C 1 1 x1 dX1_parityFor_8 rfl rfl ?_
    refine g_iconst C (2 : Int32) dX1_parityFor_9 rfl ?_
    refine g_irem C (by decide) dX1_parityFor_10 ?_
    refine g_goto C 19 dX1_parityFor_11 (by decide) ?_
    exact hret _ () _ _ _ dX1_parityFor_19 h rfl
  have h := wp_f c1 h
  refine g_iconst C (1 : Int32) dX1_parityFor_14 rfl ?_
  refine g_iload_n C 1 1 x1 dX1_parityFor_15 rfl rfl ?_
  refine g_iconst C (2 : Int32) dX1_parityFor_16 rfl ?_
  refine g_irem C (by decide) dX1_parityFor_17 ?_
  refine g_isub C dX1_parityFor_18 ?_
  exact hret _ () _ _ _ dX1_parityFor_19 h rfl
abbrev rmX8_isEdge : Room := { frames := 0, cells := 0, slots := 0, locals := 0 }
def wp_X8_isEdge (fu : Nat) (v_ticks : Int32) (v_levels : (Nat → Int32)) (x1 : Int32) (Q : Int32 → Prop) : Prop := (if x1 ≤ 0 then Q (0 : Int32) else (if v_ticks ≤ x1 then Q (0 : Int32) else (vp_in x1 360 ∧ (vp_in (x1 - (1 : Int32)) 360 ∧ (if (v_levels (ix x1)) = (v_levels (ix (x1 - (1 : Int32)))) then Q (0 : Int32) else Q (1 : Int32))))))
set_option maxHeartbeats 4000000 in
set_option maxRecDepth 100000 in
theorem c_X8_isEdge (l : Launch) (D : va_G) (cI cJ cZ cW : ClassId) (o o_levels : Nat) (v_ticks : Int32) (v_levels : (Nat → Int32)) (x1 : Int32) (fu : Nat) (Q : Int32 → Prop) (h : wp_X8_isEdge fu v_ticks v_levels x1 Q) : CtI l yX8_isEdge wkX8_isEdge rmX8_isEdge D (tys4 cI cJ cZ cW) [.ref o, .int x1] [(o, .inr (8, [.ref o_levels, .int v_ticks])), (o_levels, .inl (cI, 360, .inl v_levels))] (fun (r : Int32) (u : Unit) => (r = 0 ∨ r = 1) ∧ (fun (r : Int32) (u : Unit) => Q r ) r u) (fun (_ : Unit) => [(o, .inr (8, [.ref o_levels, .int v_ticks])), (o_levels, .inl (cI, 360, .inl v_levels))]) := by
  refine CtI.ofZ (S := Unit) (y := yX8_isEdge) (Tc := wkX8_isEdge) (rm := rmX8_isEdge) (D := D) (tys := tys4 cI cJ cZ cW) (av := [.ref o, .int x1]) (wc := [(o, .inr (8, [.ref o_levels, .int v_ticks])), (o_levels, .inl (cI, 360, .inl v_levels))]) (post := (fun (r : Int32) (u : Unit) => Q r )) (w1 := (fun (_ : Unit) => [(o, .inr (8, [.ref o_levels, .int v_ticks])), (o_levels, .inl (cI, 360, .inl v_levels))])) (cc := cX8_isEdge) (maxL := 2) RX8 rfl (by decide +kernel) rfl rfl [(0, .ref o), (1, .int x1)] rfl ?_
  intro p e s m args below meth c A Qm C hret
  unfold wp_X8_isEdge at h
  refine g_iload_n C 1 1 x1 dX8_isEdge_0 rfl rfl ?_
  refine g_if_le C 33 dX8_isEdge_1 (by decide) (fun c1 => ?_) (fun c1 => ?_)
  · have h := wp_t c1 h
    refine g_iconst C (0 : Int32) dX8_isEdge_33 rfl ?_
    exact hret _ () _ _ _ (Or.inl rfl) dX8_isEdge_34 h rfl
  have h := wp_f c1 h
  refine g_iload_n C 1 1 x1 dX8_isEdge_4 rfl rfl ?_
  refine g_aload_n C 0 0 o dX8_isEdge_5 rfl rfl ?_
  refine g_get C 8 ix_8 0 _ rfl rfl 1 (by decide) wm_58 rfl (.int v_ticks) rfl dX8_isEdge_6 ?_
  refine g_icmp_ge C 33 dX8_isEdge_9 (by decide) (fun c2 => ?_) (fun c2 => ?_)
  · have h := wp_t c2 h
    refine g_iconst C (0 : Int32) dX8_isEdge_33 rfl ?_
    exact hret _ () _ _ _ (Or.inl rfl) dX8_isEdge_34 h rfl
  have h := wp_f c2 h
  refine g_aload_n C 0 0 o dX8_isEdge_12 rfl rfl ?_
  refine g_get C 8 ix_8 0 _ rfl rfl 0 (by decide) wm_57 rfl (.ref o_levels) rfl dX8_isEdge_13 ?_
  refine g_iload_n C 1 1 x1 dX8_isEdge_16 rfl rfl ?_
  obtain ⟨hi3, h⟩ := h
  refine g_iald C 1 0 cI 360 v_levels rfl rfl hi3 dX8_isEdge_17 ?_
  refine g_aload_n C 0 0 o dX8_isEdge_18 rfl rfl ?_
  refine g_get C 8 ix_8 0 _ rfl rfl 0 (by decide) wm_57 rfl (.ref o_levels) rfl dX8_isEdge_19 ?_
  refine g_iload_n C 1 1 x1 dX8_isEdge_22 rfl rfl ?_
  refine g_iconst C (1 : Int32) dX8_isEdge_23 rfl ?_
  refine g_isub C dX8_isEdge_24 ?_
  obtain ⟨hi4, h⟩ := h
  refine g_iald C 1 0 cI 360 v_levels rfl rfl hi4 dX8_isEdge_25 ?_
  refine g_icmp_eq C 33 dX8_isEdge_26 (by decide) (fun c5 => ?_) (fun c5 => ?_)
  · have h := wp_t c5 h
    refine g_iconst C (0 : Int32) dX8_isEdge_33 rfl ?_
    exact hret _ () _ _ _ (Or.inl rfl) dX8_isEdge_34 h rfl
  have h := wp_f c5 h
  refine g_iconst C (1 : Int32) dX8_isEdge_29 rfl ?_
  refine g_goto C 34 dX8_isEdge_30 (by decide) ?_
  exact hret _ () _ _ _ (Or.inr rfl) dX8_isEdge_34 h rfl
abbrev rmJ6_bitCount_0f7a4 : Room := { frames := 0, cells := 0, slots := 0, locals := 0 }
def wp_J6_bitCount_0f7a4 (fu : Nat) (x0 : Int32) (Q : Int32 → Prop) : Prop := (∀ y1 : Int32, y1 = (x0 - ((ush x0 (1 : Int32)) &&& (1431655765 : Int32))) → (∀ y2 : Int32, y2 = ((y1 &&& (858993459 : Int32)) + ((ush y1 (2 : Int32)) &&& (858993459 : Int32))) → (∀ y3 : Int32, y3 = ((y2 + (ush y2 (4 : Int32))) &&& (252645135 : Int32)) → (∀ y4 : Int32, y4 = (y3 + (ush y3 (8 : Int32))) → (∀ y5 : Int32, y5 = (y4 + (ush y4 (16 : Int32))) → Q (y5 &&& (63 : Int32)))))))
set_option maxHeartbeats 4000000 in
set_option maxRecDepth 100000 in
theorem c_J6_bitCount_0f7a4 (l : Launch) (D : va_G) (cI cJ cZ cW : ClassId) (x0 : Int32) (fu : Nat) (Q : Int32 → Prop) (h : wp_J6_bitCount_0f7a4 fu x0 Q) : CtI l yJ6_bitCount_0f7a4 wkJ6_bitCount_0f7a4 rmJ6_bitCount_0f7a4 D (tys4 cI cJ cZ cW) [.int x0] [] (fun (r : Int32) (u : Unit) => Q r ) (fun (_ : Unit) => []) := by
  refine CtI.of (S := Unit) (y := yJ6_bitCount_0f7a4) (Tc := wkJ6_bitCount_0f7a4) (rm := rmJ6_bitCount_0f7a4) (D := D) (tys := tys4 cI cJ cZ cW) (av := [.int x0]) (wc := []) (post := (fun (r : Int32) (u : Unit) => Q r )) (w1 := (fun (_ : Unit) => [])) (cc := cJ6_bitCount_0f7a4) (maxL := 1) RJ6 rfl (by decide +kernel) rfl rfl [(0, .int x0)] rfl ?_
  intro p e s m args below meth c A Qm C hret
  unfold wp_J6_bitCount_0f7a4 at h
  refine g_iload_n C 0 0 x0 dJ6_bitCount_0f7a4_0 rfl rfl ?_
  refine g_iload_n C 0 0 x0 dJ6_bitCount_0f7a4_1 rfl rfl ?_
  refine g_iconst C (1 : Int32) dJ6_bitCount_0f7a4_2 rfl ?_
  refine g_iushr C dJ6_bitCount_0f7a4_3 ?_
  refine g_ldcw C (1431655765 : Int32) wm_739 dJ6_bitCount_0f7a4_4 ?_
  refine g_iand C dJ6_bitCount_0f7a4_7 ?_
  refine g_isub C dJ6_bitCount_0f7a4_8 ?_
  refine g_topi (fun y1 ey1 => ?_)
  have h := h y1 ey1
  refine g_istore_n C [(0, .int y1)] dJ6_bitCount_0f7a4_9 rfl (by decide) rfl ?_
  refine g_iload_n C 0 0 y1 dJ6_bitCount_0f7a4_10 rfl rfl ?_
  refine g_ldcw C (858993459 : Int32) wm_740 dJ6_bitCount_0f7a4_11 ?_
  refine g_iand C dJ6_bitCount_0f7a4_14 ?_
  refine g_iload_n C 0 0 y1 dJ6_bitCount_0f7a4_15 rfl rfl ?_
  refine g_iconst C (2 : Int32) dJ6_bitCount_0f7a4_16 rfl ?_
  refine g_iushr C dJ6_bitCount_0f7a4_17 ?_
  refine g_ldcw C (858993459 : Int32) wm_740 dJ6_bitCount_0f7a4_18 ?_
  refine g_iand C dJ6_bitCount_0f7a4_21 ?_
  refine g_iadd C dJ6_bitCount_0f7a4_22 ?_
  refine g_topi (fun y2 ey2 => ?_)
  have h := h y2 ey2
  refine g_istore_n C [(0, .int y2)] dJ6_bitCount_0f7a4_23 rfl (by decide) rfl ?_
  refine g_iload_n C 0 0 y2 dJ6_bitCount_0f7a4_24 rfl rfl ?_
  refine g_iload_n C 0 0 y2 dJ6_bitCount_0f7a4_25 rfl rfl ?_
  refine g_iconst C (4 : Int32) dJ6_bitCount_0f7a4_26 rfl ?_
  refine g_iushr C dJ6_bitCount_0f7a4_27 ?_
  refine g_iadd C dJ6_bitCount_0f7a4_28 ?_
  refine g_ldcw C (252645135 : Int32) wm_741 dJ6_bitCount_0f7a4_29 ?_
  refine g_iand C dJ6_bitCount_0f7a4_32 ?_
  refine g_topi (fun y3 ey3 => ?_)
  have h := h y3 ey3
  refine g_istore_n C [(0, .int y3)] dJ6_bitCount_0f7a4_33 rfl (by decide) rfl ?_
  refine g_iload_n C 0 0 y3 dJ6_bitCount_0f7a4_34 rfl rfl ?_
  refine g_iload_n C 0 0 y3 dJ6_bitCount_0f7a4_35 rfl rfl ?_
  refine g_bipush C (8 : Int32) dJ6_bitCount_0f7a4_36 rfl ?_
  refine g_iushr C dJ6_bitCount_0f7a4_38 ?_
  refine g_iadd C dJ6_bitCount_0f7a4_39 ?_
  refine g_topi (fun y4 ey4 => ?_)
  have h := h y4 ey4
  refine g_istore_n C [(0, .int y4)] dJ6_bitCount_0f7a4_40 rfl (by decide) rfl ?_
  refine g_iload_n C 0 0 y4 dJ6_bitCount_0f7a4_41 rfl rfl ?_
  refine g_iload_n C 0 0 y4 dJ6_bitCount_0f7a4_42 rfl rfl ?_
  refine g_bipush C (16 : Int32) dJ6_bitCount_0f7a4_43 rfl ?_
  refine g_iushr C dJ6_bitCount_0f7a4_45 ?_
  refine g_iadd C dJ6_bitCount_0f7a4_46 ?_
  refine g_topi (fun y5 ey5 => ?_)
  have h := h y5 ey5
  refine g_istore_n C [(0, .int y5)] dJ6_bitCount_0f7a4_47 rfl (by decide) rfl ?_
  refine g_iload_n C 0 0 y5 dJ6_bitCount_0f7a4_48 rfl rfl ?_
  refine g_bipush C (63 : Int32) dJ6_bitCount_0f7a4_49 rfl ?_
  refine g_iand C dJ6_bitCount_0f7a4_51 ?_
  exact hret _ () _ _ _ dJ6_bitCount_0f7a4_52 h rfl
abbrev rmX8_copy : Room := { frames := 1, cells := 0, slots := 0, locals := 28 }
def wp_X8_copy (fu : Nat) (v_a1_ticks : Int32) (v_a1_levels : (Nat → Int32)) (v_ticks : Int32) (v_levels : (Nat → Int32)) (Q : Int32 → (Nat → Int32) → Prop) : Prop := Q v_a1_ticks (va_cpy v_a1_levels v_levels 0 0 360)
set_option maxHeartbeats 4000000 in
set_option maxRecDepth 100000 in
theorem c_X8_copy (l : Launch) (D : va_G) (cI cJ cZ cW : ClassId) (o o_levels o_a1 o_a1_levels : Nat) (v_ticks : Int32) (v_levels : (Nat → Int32)) (v_a1_ticks : Int32) (v_a1_levels : (Nat → Int32)) (fu : Nat) (Q : Int32 → (Nat → Int32) → Prop) (h : wp_X8_copy fu v_a1_ticks v_a1_levels v_ticks v_levels Q) : CtV l yX8_copy wkX8_copy rmX8_copy D (tys4 cI cJ cZ cW) [.ref o, .ref o_a1] [(o, .inr (8, [.ref o_levels, .int v_ticks])), (o_levels, .inl (cI, 360, .inl v_levels)), (o_a1, .inr (8, [.ref o_a1_levels, .int v_a1_ticks])), (o_a1_levels, .inl (cI, 360, .inl v_a1_levels))] (fun (u : Int32 × (Nat → Int32)) => Q u.1 u.2) (fun (u : Int32 × (Nat → Int32)) => [(o, .inr (8, [.ref o_levels, .int u.1])), (o_levels, .inl (cI, 360, .inl u.2)), (o_a1, .inr (8, [.ref o_a1_levels, .int v_a1_ticks])), (o_a1_levels, .inl (cI, 360, .inl v_a1_levels))]) := by
  refine CtV.of (S := Int32 × (Nat → Int32)) (y := yX8_copy) (Tc := wkX8_copy) (rm := rmX8_copy) (D := D) (tys := tys4 cI cJ cZ cW) (av := [.ref o, .ref o_a1]) (wc := [(o, .inr (8, [.ref o_levels, .int v_ticks])), (o_levels, .inl (cI, 360, .inl v_levels)), (o_a1, .inr (8, [.ref o_a1_levels, .int v_a1_ticks])), (o_a1_levels, .inl (cI, 360, .inl v_a1_levels))]) (post := (fun (u : Int32 × (Nat → Int32)) => Q u.1 u.2)) (w1 := (fun (u : Int32 × (Nat → Int32)) => [(o, .inr (8, [.ref o_levels, .int u.1])), (o_levels, .inl (cI, 360, .inl u.2)), (o_a1, .inr (8, [.ref o_a1_levels, .int v_a1_ticks])), (o_a1_levels, .inl (cI, 360, .inl v_a1_levels))])) (cc := cX8_copy) (maxL := 2) RX8 rfl (by decide +kernel) rfl rfl [(0, .ref o), (1, .ref o_a1)] rfl ?_
  intro p e s m args below meth c A Qm C hret
  unfold wp_X8_copy at h
  refine g_aload_n C 0 0 o dX8_copy_0 rfl rfl ?_
  refine g_aload_n C 1 1 o_a1 dX8_copy_1 rfl rfl ?_
  refine g_get C 8 ix_8 2 _ rfl rfl 1 (by decide) wm_58 rfl (.int v_a1_ticks) rfl dX8_copy_2 ?_
  refine g_put C 8 ix_8 0 _ rfl rfl 1 (by decide) wm_58 rfl tyX8 tyX8_ok nmX8 rfl rfl rfl (Nat.le_of_ble_eq_true rfl) dX8_copy_5 [(o, .inr (8, [.ref o_levels, .int v_a1_ticks])), (o_levels, .inl (cI, 360, .inl v_levels)), (o_a1, .inr (8, [.ref o_a1_levels, .int v_a1_ticks])), (o_a1_levels, .inl (cI, 360, .inl v_a1_levels))] rfl ?_
  refine g_aload_n C 1 1 o_a1 dX8_copy_8 rfl rfl ?_
  refine g_get C 8 ix_8 2 _ rfl rfl 0 (by decide) wm_57 rfl (.ref o_a1_levels) rfl dX8_copy_9 ?_
  refine g_iconst C (0 : Int32) dX8_copy_12 rfl ?_
  refine g_aload_n C 0 0 o dX8_copy_13 rfl rfl ?_
  refine g_get C 8 ix_8 0 _ rfl rfl 0 (by decide) wm_57 rfl (.ref o_levels) rfl dX8_copy_14 ?_
  refine g_iconst C (0 : Int32) dX8_copy_17 rfl ?_
  refine g_sipush C (360 : Int32) dX8_copy_18 rfl ?_
  refine g_copyi C rfl rfl wm_665 wm_333 wm_334 wm_335 3 1 0 cI 360 360 v_a1_levels v_levels rfl rfl rfl (by decide) (by decide) (by decide) (Nat.le_of_ble_eq_true rfl) (Nat.le_of_ble_eq_true rfl) dX8_copy_21 [(o, .inr (8, [.ref o_levels, .int v_a1_ticks])), (o_levels, .inl (cI, 360, .inl (va_cpy v_a1_levels v_levels 0 0 360))), (o_a1, .inr (8, [.ref o_a1_levels, .int v_a1_ticks])), (o_a1_levels, .inl (cI, 360, .inl v_a1_levels))] rfl ?_
  exact hret (v_a1_ticks, (va_cpy v_a1_levels v_levels 0 0 360)) _ _ _ dX8_copy_24 h rfl
abbrev rmX8_hasPlaceFor : Room := { frames := 0, cells := 0, slots := 0, locals := 0 }
def wp_X8_hasPlaceFor (fu : Nat) (v_ticks : Int32) (x1 : Int32) (Q : Int32 → Prop) : Prop := (if ((360 : Int32) - v_ticks) < x1 then Q (0 : Int32) else Q (1 : Int32))
set_option maxHeartbeats 4000000 in
set_option maxRecDepth 100000 in
theorem c_X8_hasPlaceFor (l : Launch) (D : va_G) (cI cJ cZ cW : ClassId) (o o_levels : Nat) (v_ticks : Int32) (x1 : Int32) (fu : Nat) (Q : Int32 → Prop) (h : wp_X8_hasPlaceFor fu v_ticks x1 Q) : CtI l yX8_hasPlaceFor wkX8_hasPlaceFor rmX8_hasPlaceFor D (tys4 cI cJ cZ cW) [.ref o, .int x1] [(o, .inr (8, [.ref o_levels, .int v_ticks]))] (fun (r : Int32) (u : Unit) => (r = 0 ∨ r = 1) ∧ (fun (r : Int32) (u : Unit) => Q r ) r u) (fun (_ : Unit) => [(o, .inr (8, [.ref o_levels, .int v_ticks]))]) := by
  refine CtI.ofZ (S := Unit) (y := yX8_hasPlaceFor) (Tc := wkX8_hasPlaceFor) (rm := rmX8_hasPlaceFor) (D := D) (tys := tys4 cI cJ cZ cW) (av := [.ref o, .int x1]) (wc := [(o, .inr (8, [.ref o_levels, .int v_ticks]))]) (post := (fun (r : Int32) (u : Unit) => Q r )) (w1 := (fun (_ : Unit) => [(o, .inr (8, [.ref o_levels, .int v_ticks]))])) (cc := cX8_hasPlaceFor) (maxL := 2) RX8 rfl (by decide +kernel) rfl rfl [(0, .ref o), (1, .int x1)] rfl ?_
  intro p e s m args below meth c A Qm C hret
  unfold wp_X8_hasPlaceFor at h
  refine g_iload_n C 1 1 x1 dX8_hasPlaceFor_0 rfl rfl ?_
  refine g_sipush C (360 : Int32) dX8_hasPlaceFor_1 rfl ?_
  refine g_aload_n C 0 0 o dX8_hasPlaceFor_4 rfl rfl ?_
  refine g_get C 8 ix_8 0 _ rfl rfl 1 (by decide) wm_58 rfl (.int v_ticks) rfl dX8_hasPlaceFor_5 ?_
  refine g_isub C dX8_hasPlaceFor_8 ?_
  refine g_icmp_gt C 16 dX8_hasPlaceFor_9 (by decide) (fun c1 => ?_) (fun c1 => ?_)
  · have h := wp_t c1 h
    refine g_iconst C (0 : Int32) dX8_hasPlaceFor_16 rfl ?_
    exact hret _ () _ _ _ (Or.inl rfl) dX8_hasPlaceFor_17 h rfl
  have h := wp_f c1 h
  refine g_iconst C (1 : Int32) dX8_hasPlaceFor_12 rfl ?_
  refine g_goto C 17 dX8_hasPlaceFor_13 (by decide) ?_
  exact hret _ () _ _ _ (Or.inr rfl) dX8_hasPlaceFor_17 h rfl
abbrev rmX8_extendByLetter : Room := { frames := 1, cells := 0, slots := 0, locals := 23 }
def wX8_extendByLetter_94 (fu : Nat) (v_a1_bit : Int32) (v_a1_data : Int32) (v_a1_idle : Int32) (v_a1_parity : Int32) (v_a1_stops : Int32) (x2 : Int32) (Q : Int32 → (Nat → Int32) → Prop) (x3 : Int32) (v_ticks : Int32) (v_levels : (Nat → Int32)) : Prop := wp_X8_extend fu v_a1_idle (v_a1_stops * x3) v_ticks v_levels (fun (z16 : Int32) (z17 : (Nat → Int32)) => Q z16 z17)
def wX8_extendByLetter_31 (fu : Nat) (v_a1_bit : Int32) (v_a1_data : Int32) (v_a1_idle : Int32) (v_a1_parity : Int32) (v_a1_stops : Int32) (x2 : Int32) (Q : Int32 → (Nat → Int32) → Prop) : Nat → Int32 → Int32 → Int32 → Int32 → (Nat → Int32) → Prop
  | 0, _, _, _, _, _ => False
  | n0 + 1, x3, x4, x5, v_ticks, v_levels => (if v_a1_data ≤ x5 then (if v_a1_parity = 0 then wX8_extendByLetter_94 fu v_a1_bit v_a1_data v_a1_idle v_a1_parity v_a1_stops x2 Q x3 v_ticks v_levels else wp_X1_parityFor fu v_a1_parity x4 (fun (r7 : Int32) => wp_X1_levelOf fu v_a1_idle r7 (fun (r8 : Int32) => wp_X8_extend fu r8 x3 v_ticks v_levels (fun (z9 : Int32) (z10 : (Nat → Int32)) => wX8_extendByLetter_94 fu v_a1_bit v_a1_data v_a1_idle v_a1_parity v_a1_stops x2 Q x3 z9 z10)))) else (∀ y11 : Int32, y11 = ((shr x2 x5) &&& (1 : Int32)) → (∀ y12 : Int32, y12 = (x4 + y11) → wp_X1_levelOf fu v_a1_idle y11 (fun (r13 : Int32) => wp_X8_extend fu r13 x3 v_ticks v_levels (fun (z14 : Int32) (z15 : (Nat → Int32)) => (wX8_extendByLetter_31 fu v_a1_bit v_a1_data v_a1_idle v_a1_parity v_a1_stops x2 Q n0) x3 y12 (x5 + (1 : Int32)) z14 z15)))))
def wp_X8_extendByLetter (fu : Nat) (v_a1_bit : Int32) (v_a1_data : Int32) (v_a1_idle : Int32) (v_a1_parity : Int32) (v_a1_stops : Int32) (x2 : Int32) (v_ticks : Int32) (v_levels : (Nat → Int32)) (Q : Int32 → (Nat → Int32) → Prop) : Prop := wp_X8_extend fu v_a1_idle v_a1_bit v_ticks v_levels (fun (z1 : Int32) (z2 : (Nat → Int32)) => wp_X8_extend fu ((1 : Int32) - v_a1_idle) v_a1_bit z1 z2 (fun (z3 : Int32) (z4 : (Nat → Int32)) => wX8_extendByLetter_31 fu v_a1_bit v_a1_data v_a1_idle v_a1_parity v_a1_stops x2 Q fu v_a1_bit (0 : Int32) (0 : Int32) z3 z4))
set_option maxHeartbeats 4000000 in
set_option maxRecDepth 100000 in
theorem c_X8_extendByLetter (l : Launch) (D : va_G) (cI cJ cZ cW : ClassId) (o o_levels o_a1 : Nat) (v_ticks : Int32) (v_levels : (Nat → Int32)) (v_a1_bit : Int32) (v_a1_data : Int32) (v_a1_parity : Int32) (v_a1_stops : Int32) (v_a1_idle : Int32) (x2 : Int32) (fu : Nat) (Q : Int32 → (Nat → Int32) → Prop) (h : wp_X8_extendByLetter fu v_a1_bit v_a1_data v_a1_idle v_a1_parity v_a1_stops x2 v_ticks v_levels Q) : CtV l yX8_extendByLetter wkX8_extendByLetter rmX8_extendByLetter D (tys4 cI cJ cZ cW) [.ref o, .ref o_a1, .int x2] [(o, .inr (8, [.ref o_levels, .int v_ticks])), (o_levels, .inl (cI, 360, .inl v_levels)), (o_a1, .inr (1, [.int v_a1_bit, .int v_a1_data, .int v_a1_parity, .int v_a1_stops, .int v_a1_idle]))] (fun (u : Int32 × (Nat → Int32)) => Q u.1 u.2) (fun (u : Int32 × (Nat → Int32)) => [(o, .inr (8, [.ref o_levels, .int u.1])), (o_levels, .inl (cI, 360, .inl u.2)), (o_a1, .inr (1, [.int v_a1_bit, .int v_a1_data, .int v_a1_parity, .int v_a1_stops, .int v_a1_idle]))]) := by
  refine CtV.of (S := Int32 × (Nat → Int32)) (y := yX8_extendByLetter) (Tc := wkX8_extendByLetter) (rm := rmX8_extendByLetter) (D := D) (tys := tys4 cI cJ cZ cW) (av := [.ref o, .ref o_a1, .int x2]) (wc := [(o, .inr (8, [.ref o_levels, .int v_ticks])), (o_levels, .inl (cI, 360, .inl v_levels)), (o_a1, .inr (1, [.int v_a1_bit, .int v_a1_data, .int v_a1_parity, .int v_a1_stops, .int v_a1_idle]))]) (post := (fun (u : Int32 × (Nat → Int32)) => Q u.1 u.2)) (w1 := (fun (u : Int32 × (Nat → Int32)) => [(o, .inr (8, [.ref o_levels, .int u.1])), (o_levels, .inl (cI, 360, .inl u.2)), (o_a1, .inr (1, [.int v_a1_bit, .int v_a1_data, .int v_a1_parity, .int v_a1_stops, .int v_a1_idle]))])) (cc := cX8_extendByLetter) (maxL := 7) RX8 rfl (by decide +kernel) rfl rfl [(0, .ref o), (1, .ref o_a1), (2, .int x2)] rfl ?_
  intro p e s m args below meth c A Qm C hret
  have H94 : ∀ (x3 : Int32) (v_ticks : Int32) (v_levels : (Nat → Int32)), wX8_extendByLetter_94 fu v_a1_bit v_a1_data v_a1_idle v_a1_parity v_a1_stops x2 Q x3 v_ticks v_levels → G p l e rmX8_extendByLetter s m args below meth c D A 7 0 0 Qm [(o, .inr (8, [.ref o_levels, .int v_ticks])), (o_levels, .inl (cI, 360, .inl v_levels)), (o_a1, .inr (1, [.int v_a1_bit, .int v_a1_data, .int v_a1_parity, .int v_a1_stops, .int v_a1_idle]))] [(0, .ref o), (1, .ref o_a1), (3, .int x3)] 94 [] := by
    intro x3 v_ticks v_levels h
    unfold wX8_extendByLetter_94 at h
    refine g_aload_n C 0 0 o dX8_extendByLetter_94 rfl rfl ?_
    refine g_aload_n C 1 1 o_a1 dX8_extendByLetter_95 rfl rfl ?_
    refine g_getN C 1 ix_1 2 _ rfl rfl 4 (by decide) 13 rfl rfl (.int v_a1_idle) rfl dX8_extendByLetter_96 ?_
    refine g_aload_n C 1 1 o_a1 dX8_extendByLetter_99 rfl rfl ?_
    refine g_getN C 1 ix_1 2 _ rfl rfl 3 (by decide) 11 rfl rfl (.int v_a1_stops) rfl dX8_extendByLetter_100 ?_
    refine g_iload_n C 3 2 x3 dX8_extendByLetter_103 rfl rfl ?_
    refine g_imul C dX8_extendByLetter_104 ?_
    refine g_callVv (As := [.int v_a1_idle, .int (v_a1_stops * x3)]) (rest := []) C (c_X8_extend l D cI cJ cZ cW o o_levels v_ticks v_levels v_a1_idle (v_a1_stops * x3) fu _ h) 2 gd_X8_27 rfl rfl rfl (by decide +kernel) ⟨Nat.le_of_ble_eq_true rfl, Nat.le_of_ble_eq_true rfl⟩ ⟨Nat.le_of_ble_eq_true rfl, Nat.le_of_ble_eq_true rfl⟩ 8 0 rfl rfl rfl rfl (Nat.le_of_ble_eq_true rfl) [0, 1] [some 0, some 1, none] rfl rfl rfl dX8_extendByLetter_105 (fun u h => ?_)
    obtain ⟨z16, z17⟩ := u
    refine ⟨[(o, .inr (8, [.ref o_levels, .int z16])), (o_levels, .inl (cI, 360, .inl z17)), (o_a1, .inr (1, [.int v_a1_bit, .int v_a1_data, .int v_a1_parity, .int v_a1_stops, .int v_a1_idle]))], rfl, rfl, rfl, ?_⟩
    exact hret (z16, z17) _ _ _ dX8_extendByLetter_108 h rfl
  have H31 : ∀ (n31 : Nat) (x3 : Int32) (x4 : Int32) (x5 : Int32) (v_ticks : Int32) (v_levels : (Nat → Int32)), wX8_extendByLetter_31 fu v_a1_bit v_a1_data v_a1_idle v_a1_parity v_a1_stops x2 Q n31 x3 x4 x5 v_ticks v_levels → G p l e rmX8_extendByLetter s m args below meth c D A 7 0 0 Qm [(o, .inr (8, [.ref o_levels, .int v_ticks])), (o_levels, .inl (cI, 360, .inl v_levels)), (o_a1, .inr (1, [.int v_a1_bit, .int v_a1_data, .int v_a1_parity, .int v_a1_stops, .int v_a1_idle]))] [(0, .ref o), (1, .ref o_a1), (2, .int x2), (3, .int x3), (4, .int x4), (5, .int x5)] 31 [] := by
    intro n31
    induction n31 with
    | zero => intro x3 x4 x5 v_ticks v_levels h; exact False.elim h
    | succ n31 ih31 =>
      intro x3 x4 x5 v_ticks v_levels h
      unfold wX8_extendByLetter_31 at h
      refine g_iload C 5 5 x5 dX8_extendByLetter_31 rfl ?_
      refine g_aload_n C 1 1 o_a1 dX8_extendByLetter_33 rfl rfl ?_
      refine g_getN C 1 ix_1 2 _ rfl rfl 1 (by decide) 7 rfl rfl (.int v_a1_data) rfl dX8_extendByLetter_34 ?_
      refine g_icmp_ge C 72 dX8_extendByLetter_37 (by decide) (fun c5 => ?_) (fun c5 => ?_)
      · have h := wp_t c5 h
        refine g_aload_n C 1 1 o_a1 dX8_extendByLetter_72 rfl rfl ?_
        refine g_getN C 1 ix_1 2 _ rfl rfl 2 (by decide) 9 rfl rfl (.int v_a1_parity) rfl dX8_extendByLetter_73 ?_
        refine g_if_eq C 94 dX8_extendByLetter_76 (by decide) (fun c6 => ?_) (fun c6 => ?_)
        · have h := wp_t c6 h
          refine g_lv [0, 1, 3] rfl ?_
          exact H94  x3 v_ticks v_levels h
        have h := wp_f c6 h
        refine g_aload_n C 0 0 o dX8_extendByLetter_79 rfl rfl ?_
        refine g_aload_n C 1 1 o_a1 dX8_extendByLetter_80 rfl rfl ?_
        refine g_aload_n C 1 1 o_a1 dX8_extendByLetter_81 rfl rfl ?_
        refine g_iload C 4 4 x4 dX8_extendByLetter_82 rfl ?_
        refine g_callVi0 (As := [.int x4]) (rest := [.ref o_a1, .ref o]) C (c_X1_parityFor l D cI cJ cZ cW o_a1 v_a1_bit v_a1_data v_a1_parity v_a1_stops v_a1_idle x4 fu _ h) 1 gd_X8_41 rfl rfl rfl (by decide +kernel) ⟨Nat.le_of_ble_eq_true rfl, Nat.le_of_ble_eq_true rfl⟩ ⟨Nat.le_of_ble_eq_true rfl, Nat.le_of_ble_eq_true rfl⟩ 1 2 rfl rfl rfl rfl (Nat.le_of_ble_eq_true rfl) [2] rfl rfl dX8_extendByLetter_84 (fun r7 h => ?_)
        refine g_callVi0 (As := [.int r7]) (rest := [.ref o]) C (c_X1_levelOf l D cI cJ cZ cW o_a1 v_a1_bit v_a1_data v_a1_parity v_a1_stops v_a1_idle r7 fu _ h) 1 gd_X8_34 rfl rfl rfl (by decide +kernel) ⟨Nat.le_of_ble_eq_true rfl, Nat.le_of_ble_eq_true rfl⟩ ⟨Nat.le_of_ble_eq_true rfl, Nat.le_of_ble_eq_true rfl⟩ 1 2 rfl rfl rfl rfl (Nat.le_of_ble_eq_true rfl) [2] rfl rfl dX8_extendByLetter_87 (fun r8 h => ?_)
        refine g_iload_n C 3 3 x3 dX8_extendByLetter_90 rfl rfl ?_
        refine g_callVv (As := [.int r8, .int x3]) (rest := []) C (c_X8_extend l D cI cJ cZ cW o o_levels v_ticks v_levels r8 x3 fu _ h) 2 gd_X8_27 rfl rfl rfl (by decide +kernel) ⟨Nat.le_of_ble_eq_true rfl, Nat.le_of_ble_eq_true rfl⟩ ⟨Nat.le_of_ble_eq_true rfl, Nat.le_of_ble_eq_true rfl⟩ 8 0 rfl rfl rfl rfl (Nat.le_of_ble_eq_true rfl) [0, 1] [some 0, some 1, none] rfl rfl rfl dX8_extendByLetter_91 (fun u h => ?_)
        obtain ⟨z9, z10⟩ := u
        refine ⟨[(o, .inr (8, [.ref o_levels, .int z9])), (o_levels, .inl (cI, 360, .inl z10)), (o_a1, .inr (1, [.int v_a1_bit, .int v_a1_data, .int v_a1_parity, .int v_a1_stops, .int v_a1_idle]))], rfl, rfl, rfl, ?_⟩
        refine g_lv [0, 1, 3] rfl ?_
        exact H94  x3 z9 z10 h
      have h := wp_f c5 h
      refine g_iload_n C 2 2 x2 dX8_extendByLetter_40 rfl rfl ?_
      refine g_iload C 5 5 x5 dX8_extendByLetter_41 rfl ?_
      refine g_ishr C dX8_extendByLetter_43 ?_
      refine g_iconst C (1 : Int32) dX8_extendByLetter_44 rfl ?_
      refine g_iand C dX8_extendByLetter_45 ?_
      refine g_topi (fun y11 ey11 => ?_)
      have h := h y11 ey11
      refine g_istore C [(6, .int y11), (0, .ref o), (1, .ref o_a1), (2, .int x2), (3, .int x3), (4, .int x4), (5, .int x5)] dX8_extendByLetter_46 (by decide) rfl ?_
      refine g_iload C 4 5 x4 dX8_extendByLetter_48 rfl ?_
      refine g_iload C 6 0 y11 dX8_extendByLetter_50 rfl ?_
      refine g_iadd C dX8_extendByLetter_52 ?_
      refine g_topi (fun y12 ey12 => ?_)
      have h := h y12 ey12
      refine g_istore C [(4, .int y12), (6, .int y11), (0, .ref o), (1, .ref o_a1), (2, .int x2), (3, .int x3), (5, .int x5)] dX8_extendByLetter_53 (by decide) rfl ?_
      refine g_aload_n C 0 2 o dX8_extendByLetter_55 rfl rfl ?_
      refine g_aload_n C 1 3 o_a1 dX8_extendByLetter_56 rfl rfl ?_
      refine g_iload C 6 1 y11 dX8_extendByLetter_57 rfl ?_
      refine g_callVi0 (As := [.int y11]) (rest := [.ref o]) C (c_X1_levelOf l D cI cJ cZ cW o_a1 v_a1_bit v_a1_data v_a1_parity v_a1_stops v_a1_idle y11 fu _ h) 1 gd_X8_34 rfl rfl rfl (by decide +kernel) ⟨Nat.le_of_ble_eq_true rfl, Nat.le_of_ble_eq_true rfl⟩ ⟨Nat.le_of_ble_eq_true rfl, Nat.le_of_ble_eq_true rfl⟩ 1 2 rfl rfl rfl rfl (Nat.le_of_ble_eq_true rfl) [2] rfl rfl dX8_extendByLetter_59 (fun r13 h => ?_)
      refine g_iload_n C 3 5 x3 dX8_extendByLetter_62 rfl rfl ?_
      refine g_callVv (As := [.int r13, .int x3]) (rest := []) C (c_X8_extend l D cI cJ cZ cW o o_levels v_ticks v_levels r13 x3 fu _ h) 2 gd_X8_27 rfl rfl rfl (by decide +kernel) ⟨Nat.le_of_ble_eq_true rfl, Nat.le_of_ble_eq_true rfl⟩ ⟨Nat.le_of_ble_eq_true rfl, Nat.le_of_ble_eq_true rfl⟩ 8 0 rfl rfl rfl rfl (Nat.le_of_ble_eq_true rfl) [0, 1] [some 0, some 1, none] rfl rfl rfl dX8_extendByLetter_63 (fun u h => ?_)
      obtain ⟨z14, z15⟩ := u
      refine ⟨[(o, .inr (8, [.ref o_levels, .int z14])), (o_levels, .inl (cI, 360, .inl z15)), (o_a1, .inr (1, [.int v_a1_bit, .int v_a1_data, .int v_a1_parity, .int v_a1_stops, .int v_a1_idle]))], rfl, rfl, rfl, ?_⟩
      refine g_iinc C 6 x5 (x5 + (1 : Int32)) [(5, .int (x5 + (1 : Int32))), (4, .int y12), (6, .int y11), (0, .ref o), (1, .ref o_a1), (2, .int x2), (3, .int x3)] dX8_extendByLetter_66 rfl rfl (by decide) rfl ?_
      refine g_goto C 31 dX8_extendByLetter_69 (by decide) ?_
      refine g_lv [3, 4, 5, 6, 1, 0] rfl ?_
      exact ih31  x3 y12 (x5 + (1 : Int32)) z14 z15 h
  unfold wp_X8_extendByLetter at h
  refine g_aload_n C 1 1 o_a1 dX8_extendByLetter_0 rfl rfl ?_
  refine g_getN C 1 ix_1 2 _ rfl rfl 0 (by decide) 6 rfl rfl (.int v_a1_bit) rfl dX8_extendByLetter_1 ?_
  refine g_istore_n C [(3, .int v_a1_bit), (0, .ref o), (1, .ref o_a1), (2, .int x2)] dX8_extendByLetter_4 rfl (by decide) rfl ?_
  refine g_iconst C (0 : Int32) dX8_extendByLetter_5 rfl ?_
  refine g_istore C [(4, .int (0 : Int32)), (3, .int v_a1_bit), (0, .ref o), (1, .ref o_a1), (2, .int x2)] dX8_extendByLetter_6 (by decide) rfl ?_
  refine g_aload_n C 0 2 o dX8_extendByLetter_8 rfl rfl ?_
  refine g_aload_n C 1 3 o_a1 dX8_extendByLetter_9 rfl rfl ?_
  refine g_getN C 1 ix_1 2 _ rfl rfl 4 (by decide) 13 rfl rfl (.int v_a1_idle) rfl dX8_extendByLetter_10 ?_
  refine g_iload_n C 3 1 v_a1_bit dX8_extendByLetter_13 rfl rfl ?_
  refine g_callVv (As := [.int v_a1_idle, .int v_a1_bit]) (rest := []) C (c_X8_extend l D cI cJ cZ cW o o_levels v_ticks v_levels v_a1_idle v_a1_bit fu _ h) 2 gd_X8_27 rfl rfl rfl (by decide +kernel) ⟨Nat.le_of_ble_eq_true rfl, Nat.le_of_ble_eq_true rfl⟩ ⟨Nat.le_of_ble_eq_true rfl, Nat.le_of_ble_eq_true rfl⟩ 8 0 rfl rfl rfl rfl (Nat.le_of_ble_eq_true rfl) [0, 1] [some 0, some 1, none] rfl rfl rfl dX8_extendByLetter_14 (fun u h => ?_)
  obtain ⟨z1, z2⟩ := u
  refine ⟨[(o, .inr (8, [.ref o_levels, .int z1])), (o_levels, .inl (cI, 360, .inl z2)), (o_a1, .inr (1, [.int v_a1_bit, .int v_a1_data, .int v_a1_parity, .int v_a1_stops, .int v_a1_idle]))], rfl, rfl, rfl, ?_⟩
  refine g_aload_n C 0 2 o dX8_extendByLetter_17 rfl rfl ?_
  refine g_iconst C (1 : Int32) dX8_extendByLetter_18 rfl ?_
  refine g_aload_n C 1 3 o_a1 dX8_extendByLetter_19 rfl rfl ?_
  refine g_getN C 1 ix_1 2 _ rfl rfl 4 (by decide) 13 rfl rfl (.int v_a1_idle) rfl dX8_extendByLetter_20 ?_
  refine g_isub C dX8_extendByLetter_23 ?_
  refine g_iload_n C 3 1 v_a1_bit dX8_extendByLetter_24 rfl rfl ?_
  refine g_callVv (As := [.int ((1 : Int32) - v_a1_idle), .int v_a1_bit]) (rest := []) C (c_X8_extend l D cI cJ cZ cW o o_levels z1 z2 ((1 : Int32) - v_a1_idle) v_a1_bit fu _ h) 2 gd_X8_27 rfl rfl rfl (by decide +kernel) ⟨Nat.le_of_ble_eq_true rfl, Nat.le_of_ble_eq_true rfl⟩ ⟨Nat.le_of_ble_eq_true rfl, Nat.le_of_ble_eq_true rfl⟩ 8 0 rfl rfl rfl rfl (Nat.le_of_ble_eq_true rfl) [0, 1] [some 0, some 1, none] rfl rfl rfl dX8_extendByLetter_25 (fun u h => ?_)
  obtain ⟨z3, z4⟩ := u
  refine ⟨[(o, .inr (8, [.ref o_levels, .int z3])), (o_levels, .inl (cI, 360, .inl z4)), (o_a1, .inr (1, [.int v_a1_bit, .int v_a1_data, .int v_a1_parity, .int v_a1_stops, .int v_a1_idle]))], rfl, rfl, rfl, ?_⟩
  refine g_iconst C (0 : Int32) dX8_extendByLetter_28 rfl ?_
  refine g_istore C [(5, .int (0 : Int32)), (4, .int (0 : Int32)), (3, .int v_a1_bit), (0, .ref o), (1, .ref o_a1), (2, .int x2)] dX8_extendByLetter_29 (by decide) rfl ?_
  refine g_lv [3, 4, 5, 2, 1, 0] rfl ?_
  exact H31 fu  v_a1_bit (0 : Int32) (0 : Int32) z3 z4 h
