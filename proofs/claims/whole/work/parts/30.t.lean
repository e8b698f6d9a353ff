abbrev rmX8_has : Room := { frames := 0, cells := 0, slots := 0, locals := 0 }
def wp_X8_has (fu : Nat) (v_ticks : Int32) (x1 : Int32) (Q : Int32 → Prop) : Prop := (if x1 < 0 then Q (0 : Int32) else (if v_ticks ≤ x1 then Q (0 : Int32) else Q (1 : Int32)))
set_option maxHeartbeats 4000000 in
set_option maxRecDepth 100000 in
theorem c_X8_has (l : Launch) (D : va_G) (cI cJ cZ cW : ClassId) (o o_levels : Nat) (v_ticks : Int32) (x1 : Int32) (fu : Nat) (Q : Int32 → Prop) (h : wp_X8_has fu v_ticks x1 Q) : CtI l yX8_has wkX8_has rmX8_has D (tys4 cI cJ cZ cW) [.ref o, .int x1] [(o, .inr (8, [.ref o_levels, .int v_ticks]))] (fun (r : Int32) (u : Unit) => (r = 0 ∨ r = 1) ∧ (fun (r : Int32) (u : Unit) => Q r ) r u) (fun (_ : Unit) => [(o, .inr (8, [.ref o_levels, .int v_ticks]))]) := by
  refine CtI.ofZ (post := (fun (r : Int32) (u : Unit) => Q r )) (w1 := (fun (_ : Unit) => [(o, .inr (8, [.ref o_levels, .int v_ticks]))])) (cc := cX8_has) (maxL := 2) RX8 rfl (by decide +kernel) rfl (by decide +kernel) [(0, .ref o), (1, .int x1)] rfl ?_
  intro p e s m args below meth c A Qm C hret
  unfold wp_X8_has at h
  refine g_iload_n C 1 1 x1 dX8_has_0 rfl rfl ?_
  refine g_if_lt C 16 dX8_has_1 (by decide) (fun c1 => ?_) (fun c1 => ?_)
  · have h := wp_t c1 h
    refine g_iconst C (0 : Int32) dX8_has_16 rfl ?_
    exact hret _ () _ _ _ (Or.inl rfl) dX8_has_17 h rfl
  have h := wp_f c1 h
  refine g_iload_n C 1 1 x1 dX8_has_4 rfl rfl ?_
  refine g_aload_n C 0 0 o dX8_has_5 rfl rfl ?_
  refine g_get C 8 ix_8 0 _ rfl rfl 1 (by decide) wm_58 rfl (.int v_ticks) rfl dX8_has_6 ?_
  refine g_icmp_ge C 16 dX8_has_9 (by decide) (fun c2 => ?_) (fun c2 => ?_)
  · have h := wp_t c2 h
    refine g_iconst C (0 : Int32) dX8_has_16 rfl ?_
    exact hret _ () _ _ _ (Or.inl rfl) dX8_has_17 h rfl
  have h := wp_f c2 h
  refine g_iconst C (1 : Int32) dX8_has_12 rfl ?_
  refine g_goto C 17 dX8_has_13 (by decide) ?_
  exact hret _ () _ _ _ (Or.inr rfl) dX8_has_17 h rfl
abbrev rmX8_extend : Room := { frames := 0, cells := 0, slots := 0, locals := 0 }
def wX8_extend_2 (fu : Nat) (x1 : Int32) (x2 : Int32) (Q : Int32 → (Nat → Int32) → Prop) : Nat → Int32 → Int32 → (Nat → Int32) → Prop
  | 0, _, _, _ => False
  | n0 + 1, x3, v_ticks, v_levels => (if x2 ≤ x3 then Q v_ticks v_levels else (if (360 : Int32) ≤ v_ticks then Q v_ticks v_levels else (vp_in v_ticks 360 ∧ wX8_extend_2 fu x1 x2 Q n0 (x3 + (1 : Int32)) (v_ticks + (1 : Int32)) (upd v_levels (ix v_ticks) x1))))
def wp_X8_extend (fu : Nat) (x1 : Int32) (x2 : Int32) (v_ticks : Int32) (v_levels : (Nat → Int32)) (Q : Int32 → (Nat → Int32) → Prop) : Prop := wX8_extend_2 fu x1 x2 Q fu (0 : Int32) v_ticks v_levels
set_option maxHeartbeats 4000000 in
set_option maxRecDepth 100000 in
theorem c_X8_extend (l : Launch) (D : va_G) (cI cJ cZ cW : ClassId) (o o_levels : Nat) (v_ticks : Int32) (v_levels : (Nat → Int32)) (x1 : Int32) (x2 : Int32) (fu : Nat) (Q : Int32 → (Nat → Int32) → Prop) (h : wp_X8_extend fu x1 x2 v_ticks v_levels Q) : CtV l yX8_extend wkX8_extend rmX8_extend D (tys4 cI cJ cZ cW) [.ref o, .int x1, .int x2] [(o, .inr (8, [.ref o_levels, .int v_ticks])), (o_levels, .inl (cI, 360, .inl v_levels))] (fun (u : Int32 × (Nat → Int32)) => Q u.1 u.2) (fun (u : Int32 × (Nat → Int32)) => [(o, .inr (8, [.ref o_levels, .int u.1])), (o_levels, .inl (cI, 360, .inl u.2))]) := by
  refine CtV.of (post := (fun (u : Int32 × (Nat → Int32)) => Q u.1 u.2)) (w1 := (fun (u : Int32 × (Nat → Int32)) => [(o, .inr (8, [.ref o_levels, .int u.1])), (o_levels, .inl (cI, 360, .inl u.2))])) (cc := cX8_extend) (maxL := 4) RX8 rfl (by decide +kernel) rfl (by decide +kernel) [(0, .ref o), (1, .int x1), (2, .int x2)] rfl ?_
  intro p e s m args below meth c A Qm C hret
  have H2 : ∀ (n0 : Nat) (x3 : Int32) (v_ticks : Int32) (v_levels : (Nat → Int32)), wX8_extend_2 fu x1 x2 Q n0 x3 v_ticks v_levels → G p l e rmX8_extend s m args below meth c D A 4 0 0 Qm [(o, .inr (8, [.ref o_levels, .int v_ticks])), (o_levels, .inl (cI, 360, .inl v_levels))] [(0, .ref o), (1, .int x1), (2, .int x2), (3, .int x3)] 2 [] := by
    intro n0
    induction n0 with
    | zero => intro x3 v_ticks v_levels h; exact False.elim h
    | succ n0 ih2 =>
      intro x3 v_ticks v_levels h
      unfold wX8_extend_2 at h
      refine g_iload_n C 3 3 x3 dX8_extend_2 rfl rfl ?_
      refine g_iload_n C 2 2 x2 dX8_extend_3 rfl rfl ?_
      refine g_icmp_ge C 43 dX8_extend_4 (by decide) (fun c1 => ?_) (fun c1 => ?_)
      · have h := wp_t c1 h
        exact hret (v_ticks, v_levels) _ _ _ dX8_extend_43 h rfl
      have h := wp_f c1 h
      refine g_aload_n C 0 0 o dX8_extend_7 rfl rfl ?_
      refine g_get C 8 ix_8 0 _ rfl rfl 1 (by decide) wm_58 rfl (.int v_ticks) rfl dX8_extend_8 ?_
      refine g_sipush C (360 : Int32) dX8_extend_11 rfl ?_
      refine g_icmp_ge C 43 dX8_extend_14 (by decide) (fun c2 => ?_) (fun c2 => ?_)
      · have h := wp_t c2 h
        exact hret (v_ticks, v_levels) _ _ _ dX8_extend_43 h rfl
      have h := wp_f c2 h
      refine g_aload_n C 0 0 o dX8_extend_17 rfl rfl ?_
      refine g_get C 8 ix_8 0 _ rfl rfl 0 (by decide) wm_57 rfl (.ref o_levels) rfl dX8_extend_18 ?_
      refine g_aload_n C 0 0 o dX8_extend_21 rfl rfl ?_
      refine g_get C 8 ix_8 0 _ rfl rfl 1 (by decide) wm_58 rfl (.int v_ticks) rfl dX8_extend_22 ?_
      refine g_iload_n C 1 1 x1 dX8_extend_25 rfl rfl ?_
      obtain ⟨hi3, h⟩ := h
      refine g_iast C 1 0 cI 360 v_levels rfl rfl hi3 dX8_extend_26 [(o, .inr (8, [.ref o_levels, .int v_ticks])), (o_levels, .inl (cI, 360, .inl (upd v_levels (ix v_ticks) x1)))] rfl ?_
      refine g_aload_n C 0 0 o dX8_extend_27 rfl rfl ?_
      refine g_dup C dX8_extend_28 rfl ?_
      refine g_get C 8 ix_8 0 _ rfl rfl 1 (by decide) wm_58 rfl (.int v_ticks) rfl dX8_extend_29 ?_
      refine g_iconst C (1 : Int32) dX8_extend_32 rfl ?_
      refine g_iadd C dX8_extend_33 ?_
      refine g_put C 8 ix_8 0 _ rfl rfl 1 (by decide) wm_58 rfl tyX8 tyX8_ok nmX8 rfl rfl rfl (Nat.le_of_ble_eq_true rfl) dX8_extend_34 [(o, .inr (8, [.ref o_levels, .int (v_ticks + (1 : Int32))])), (o_levels, .inl (cI, 360, .inl (upd v_levels (ix v_ticks) x1)))] rfl ?_
      refine g_iinc C 3 x3 (x3 + (1 : Int32)) [(3, .int (x3 + (1 : Int32))), (0, .ref o), (1, .int x1), (2, .int x2)] dX8_extend_37 rfl rfl (by decide) rfl ?_
      refine g_goto C 2 dX8_extend_40 (by decide) ?_
      refine g_lv [1, 2, 3, 0] rfl ?_
      exact ih2  (x3 + (1 : Int32)) (v_ticks + (1 : Int32)) (upd v_levels (ix v_ticks) x1) h
  unfold wp_X8_extend at h
  refine g_iconst C (0 : Int32) dX8_extend_0 rfl ?_
  refine g_istore_n C [(3, .int (0 : Int32)), (0, .ref o), (1, .int x1), (2, .int x2)] dX8_extend_1 rfl (by decide) rfl ?_
  refine g_lv [1, 2, 3, 0] rfl ?_
  exact H2 fu  (0 : Int32) v_ticks v_levels h
