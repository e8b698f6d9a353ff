abbrev rmX10_copy : Room := { frames := 0, cells := 0, slots := 0, locals := 0 }
def wX10_copy_2 (fu : Nat) (v_a0 : (Nat → Int32)) (Q : (Nat → Int32) → Prop) : Nat → Int32 → (Nat → Int32) → Prop
  | 0, _, _ => False
  | n0 + 1, x2, v_a1 => (if (361 : Int32) ≤ x2 then Q v_a1 else (vp_in x2 361 ∧ (vp_in x2 361 ∧ (wX10_copy_2 fu v_a0 Q n0) (x2 + (1 : Int32)) (upd v_a1 (ix x2) (v_a0 (ix x2))))))
def wp_X10_copy (fu : Nat) (v_a0 : (Nat → Int32)) (v_a1 : (Nat → Int32)) (Q : (Nat → Int32) → Prop) : Prop := wX10_copy_2 fu v_a0 Q fu (0 : Int32) v_a1
set_option maxHeartbeats 4000000 in
set_option maxRecDepth 100000 in
theorem c_X10_copy (l : Launch) (D : va_G) (cI cJ cZ cW : ClassId) (o_a0 o_a1 : Nat) (v_a0 : (Nat → Int32)) (v_a1 : (Nat → Int32)) (fu : Nat) (Q : (Nat → Int32) → Prop) (h : wp_X10_copy fu v_a0 v_a1 Q) : CtV l yX10_copy wkX10_copy rmX10_copy D (tys4 cI cJ cZ cW) [.ref o_a0, .ref o_a1] [(o_a0, .inl (cI, 361, .inl v_a0)), (o_a1, .inl (cI, 361, .inl v_a1))] (fun (u : (Nat → Int32)) => Q u) (fun (u : (Nat → Int32)) => [(o_a0, .inl (cI, 361, .inl v_a0)), (o_a1, .inl (cI, 361, .inl u))]) := by
  refine CtV.of (S := (Nat → Int32)) (y := yX10_copy) (Tc := wkX10_copy) (rm := rmX10_copy) (D := D) (tys := tys4 cI cJ cZ cW) (av := [.ref o_a0, .ref o_a1]) (wc := [(o_a0, .inl (cI, 361, .inl v_a0)), (o_a1, .inl (cI, 361, .inl v_a1))]) (post := (fun (u : (Nat → Int32)) => Q u)) (w1 := (fun (u : (Nat → Int32)) => [(o_a0, .inl (cI, 361, .inl v_a0)), (o_a1, .inl (cI, 361, .inl u))])) (cc := cX10_copy) (maxL := 3) RX10 rfl (by decide +kernel) rfl rfl [(0, .ref o_a0), (1, .ref o_a1)] rfl ?_
  intro p e s m args below meth c A Qm C hret
  have H2 : ∀ (n2 : Nat) (x2 : Int32) (v_a1 : (Nat → Int32)), wX10_copy_2 fu v_a0 Q n2 x2 v_a1 → G p l e rmX10_copy s m args below meth c D A 3 0 0 Qm [(o_a0, .inl (cI, 361, .inl v_a0)), (o_a1, .inl (cI, 361, .inl v_a1))] [(0, .ref o_a0), (1, .ref o_a1), (2, .int x2)] 2 [] := by
    intro n2
    induction n2 with
    | zero => intro x2 v_a1 h; exact False.elim h
    | succ n2 ih2 =>
      intro x2 v_a1 h
      unfold wX10_copy_2 at h
      refine g_iload_n C 2 2 x2 dX10_copy_2 rfl rfl ?_
      refine g_sipush C (361 : Int32) dX10_copy_3 rfl ?_
      refine g_icmp_ge C 21 dX10_copy_6 (by decide) (fun c1 => ?_) (fun c1 => ?_)
      · have h := wp_t c1 h
        exact hret v_a1 _ _ _ dX10_copy_21 h rfl
      have h := wp_f c1 h
      refine g_aload_n C 1 1 o_a1 dX10_copy_9 rfl rfl ?_
      refine g_iload_n C 2 2 x2 dX10_copy_10 rfl rfl ?_
      refine g_aload_n C 0 0 o_a0 dX10_copy_11 rfl rfl ?_
      refine g_iload_n C 2 2 x2 dX10_copy_12 rfl rfl ?_
      obtain ⟨hi2, h⟩ := h
      refine g_iald C 0 0 cI 361 v_a0 rfl rfl hi2 dX10_copy_13 ?_
      obtain ⟨hi3, h⟩ := h
      refine g_iast C 1 0 cI 361 v_a1 rfl rfl hi3 dX10_copy_14 [(o_a0, .inl (cI, 361, .inl v_a0)), (o_a1, .inl (cI, 361, .inl (upd v_a1 (ix x2) (v_a0 (ix x2)))))] rfl ?_
      refine g_iinc C 2 x2 (x2 + (1 : Int32)) [(2, .int (x2 + (1 : Int32))), (0, .ref o_a0), (1, .ref o_a1)] dX10_copy_15 rfl rfl (by decide) rfl ?_
      refine g_goto C 2 dX10_copy_18 (by decide) ?_
      refine g_lv [1, 2, 0] rfl ?_
      exact ih2  (x2 + (1 : Int32)) (upd v_a1 (ix x2) (v_a0 (ix x2))) h
  unfold wp_X10_copy at h
  refine g_iconst C (0 : Int32) dX10_copy_0 rfl ?_
  refine g_istore_n C [(2, .int (0 : Int32)), (0, .ref o_a0), (1, .ref o_a1)] dX10_copy_1 rfl (by decide) rfl ?_
  refine g_lv [1, 2, 0] rfl ?_
  exact H2 fu  (0 : Int32) v_a1 h
abbrev rmX10_in : Room := { frames := 0, cells := 0, slots := 0, locals := 0 }
def wp_X10_in (fu : Nat) (x0 : Int64) (x2 : Int64) (x4 : Int64) (Q : Int32 → Prop) : Prop := (if (lg_cmp x0 x2) < 0 then Q (0 : Int32) else (if 0 < (lg_cmp x0 x4) then Q (0 : Int32) else Q (1 : Int32)))
set_option maxHeartbeats 4000000 in
set_option maxRecDepth 100000 in
theorem c_X10_in (l : Launch) (D : va_G) (cI cJ cZ cW : ClassId) (x0 : Int64) (x2 : Int64) (x4 : Int64) (fu : Nat) (Q : Int32 → Prop) (h : wp_X10_in fu x0 x2 x4 Q) : CtI l yX10_in wkX10_in rmX10_in D (tys4 cI cJ cZ cW) [.long x0, .long x2, .long x4] [] (fun (r : Int32) (u : Unit) => (r = 0 ∨ r = 1) ∧ (fun (r : Int32) (u : Unit) => Q r ) r u) (fun (_ : Unit) => []) := by
  refine CtI.ofZ (S := Unit) (y := yX10_in) (Tc := wkX10_in) (rm := rmX10_in) (D := D) (tys := tys4 cI cJ cZ cW) (av := [.long x0, .long x2, .long x4]) (wc := []) (post := (fun (r : Int32) (u : Unit) => Q r )) (w1 := (fun (_ : Unit) => [])) (cc := cX10_in) (maxL := 6) RX10 rfl (by decide +kernel) rfl rfl [(0, .long x0), (2, .long x2), (4, .long x4)] rfl ?_
  intro p e s m args below meth c A Qm C hret
  unfold wp_X10_in at h
  refine g_lload_n C 0 0 x0 dX10_in_0 rfl rfl ?_
  refine g_lload_n C 2 1 x2 dX10_in_1 rfl rfl ?_
  refine g_lcmp C dX10_in_2 ?_
  refine g_if_lt C 17 dX10_in_3 (by decide) (fun c1 => ?_) (fun c1 => ?_)
  · have h := wp_t c1 h
    refine g_iconst C (0 : Int32) dX10_in_17 rfl ?_
    exact hret _ () _ _ _ (Or.inl rfl) dX10_in_18 h rfl
  have h := wp_f c1 h
  refine g_lload_n C 0 0 x0 dX10_in_6 rfl rfl ?_
  refine g_lload C 4 2 x4 dX10_in_7 rfl ?_
  refine g_lcmp C dX10_in_9 ?_
  refine g_if_gt C 17 dX10_in_10 (by decide) (fun c2 => ?_) (fun c2 => ?_)
  · have h := wp_t c2 h
    refine g_iconst C (0 : Int32) dX10_in_17 rfl ?_
    exact hret _ () _ _ _ (Or.inl rfl) dX10_in_18 h rfl
  have h := wp_f c2 h
  refine g_iconst C (1 : Int32) dX10_in_13 rfl ?_
  refine g_goto C 18 dX10_in_14 (by decide) ?_
  exact hret _ () _ _ _ (Or.inr rfl) dX10_in_18 h rfl
abbrev rmX10_ones : Room := { frames := 0, cells := 0, slots := 0, locals := 0 }
def wX10_ones_4 (fu : Nat) (x0 : Int32) (Q : Int32 → Prop) : Nat → Int32 → Int32 → Prop
  | 0, _, _ => False
  | n0 + 1, x1, x2 => (if (8 : Int32) ≤ x2 then Q x1 else (∀ y2 : Int32, y2 = (x1 + ((shr x0 x2) &&& (1 : Int32))) → (wX10_ones_4 fu x0 Q n0) y2 (x2 + (1 : Int32))))
def wp_X10_ones (fu : Nat) (x0 : Int32) (Q : Int32 → Prop) : Prop := wX10_ones_4 fu x0 Q fu (0 : Int32) (0 : Int32)
set_option maxHeartbeats 4000000 in
set_option maxRecDepth 100000 in
theorem c_X10_ones (l : Launch) (D : va_G) (cI cJ cZ cW : ClassId) (x0 : Int32) (fu : Nat) (Q : Int32 → Prop) (h : wp_X10_ones fu x0 Q) : CtI l yX10_ones wkX10_ones rmX10_ones D (tys4 cI cJ cZ cW) [.int x0] [] (fun (r : Int32) (u : Unit) => Q r ) (fun (_ : Unit) => []) := by
  refine CtI.of (S := Unit) (y := yX10_ones) (Tc := wkX10_ones) (rm := rmX10_ones) (D := D) (tys := tys4 cI cJ cZ cW) (av := [.int x0]) (wc := []) (post := (fun (r : Int32) (u : Unit) => Q r )) (w1 := (fun (_ : Unit) => [])) (cc := cX10_ones) (maxL := 3) RX10 rfl (by decide +kernel) rfl rfl [(0, .int x0)] rfl ?_
  intro p e s m args below meth c A Qm C hret
  have H4 : ∀ (n4 : Nat) (x1 : Int32) (x2 : Int32), wX10_ones_4 fu x0 Q n4 x1 x2 → G p l e rmX10_ones s m args below meth c D A 3 0 0 Qm [] [(0, .int x0), (1, .int x1), (2, .int x2)] 4 [] := by
    intro n4
    induction n4 with
    | zero => intro x1 x2 h; exact False.elim h
    | succ n4 ih4 =>
      intro x1 x2 h
      unfold wX10_ones_4 at h
      refine g_iload_n C 2 2 x2 dX10_ones_4 rfl rfl ?_
      refine g_bipush C (8 : Int32) dX10_ones_5 rfl ?_
      refine g_icmp_ge C 24 dX10_ones_7 (by decide) (fun c1 => ?_) (fun c1 => ?_)
      · have h := wp_t c1 h
        refine g_iload_n C 1 1 x1 dX10_ones_24 rfl rfl ?_
        exact hret _ () _ _ _ dX10_ones_25 h rfl
      have h := wp_f c1 h
      refine g_iload_n C 1 1 x1 dX10_ones_10 rfl rfl ?_
      refine g_iload_n C 0 0 x0 dX10_ones_11 rfl rfl ?_
      refine g_iload_n C 2 2 x2 dX10_ones_12 rfl rfl ?_
      refine g_ishr C dX10_ones_13 ?_
      refine g_iconst C (1 : Int32) dX10_ones_14 rfl ?_
      refine g_iand C dX10_ones_15 ?_
      refine g_iadd C dX10_ones_16 ?_
      refine g_topi (fun y2 ey2 => ?_)
      have h := h y2 ey2
      refine g_istore_n C [(1, .int y2), (0, .int x0), (2, .int x2)] dX10_ones_17 rfl (by decide) rfl ?_
      refine g_iinc C 2 x2 (x2 + (1 : Int32)) [(2, .int (x2 + (1 : Int32))), (1, .int y2), (0, .int x0)] dX10_ones_18 rfl rfl (by decide) rfl ?_
      refine g_goto C 4 dX10_ones_21 (by decide) ?_
      refine g_lv [2, 1, 0] rfl ?_
      exact ih4  y2 (x2 + (1 : Int32)) h
  unfold wp_X10_ones at h
  refine g_iconst C (0 : Int32) dX10_ones_0 rfl ?_
  refine g_istore_n C [(1, .int (0 : Int32)), (0, .int x0)] dX10_ones_1 rfl (by decide) rfl ?_
  refine g_iconst C (0 : Int32) dX10_ones_2 rfl ?_
  refine g_istore_n C [(2, .int (0 : Int32)), (1, .int (0 : Int32)), (0, .int x0)] dX10_ones_3 rfl (by decide) rfl ?_
  refine g_lv [2, 1, 0] rfl ?_
  exact H4 fu  (0 : Int32) (0 : Int32) h
abbrev rmX10_power : Room := { frames := 0, cells := 0, slots := 0, locals := 0 }
def wX10_power_4 (fu : Nat) (x0 : Int32) (x1 : Int32) (Q : Int32 → Prop) : Nat → Int32 → Int32 → Prop
  | 0, _, _ => False
  | n0 + 1, x2, x3 => (if x1 ≤ x3 then Q x2 else (∀ y2 : Int32, y2 = (x2 * x0) → (wX10_power_4 fu x0 x1 Q n0) y2 (x3 + (1 : Int32))))
def wp_X10_power (fu : Nat) (x0 : Int32) (x1 : Int32) (Q : Int32 → Prop) : Prop := wX10_power_4 fu x0 x1 Q fu (1 : Int32) (0 : Int32)
set_option maxHeartbeats 4000000 in
set_option maxRecDepth 100000 in
theorem c_X10_power (l : Launch) (D : va_G) (cI cJ cZ cW : ClassId) (x0 : Int32) (x1 : Int32) (fu : Nat) (Q : Int32 → Prop) (h : wp_X10_power fu x0 x1 Q) : CtI l yX10_power wkX10_power rmX10_power D (tys4 cI cJ cZ cW) [.int x0, .int x1] [] (fun (r : Int32) (u : Unit) => Q r ) (fun (_ : Unit) => []) := by
  refine CtI.of (S := Unit) (y := yX10_power) (Tc := wkX10_power) (rm := rmX10_power) (D := D) (tys := tys4 cI cJ cZ cW) (av := [.int x0, .int x1]) (wc := []) (post := (fun (r : Int32) (u : Unit) => Q r )) (w1 := (fun (_ : Unit) => [])) (cc := cX10_power) (maxL := 4) RX10 rfl (by decide +kernel) rfl rfl [(0, .int x0), (1, .int x1)] rfl ?_
  intro p e s m args below meth c A Qm C hret
  have H4 : ∀ (n4 : Nat) (x2 : Int32) (x3 : Int32), wX10_power_4 fu x0 x1 Q n4 x2 x3 → G p l e rmX10_power s m args below meth c D A 4 0 0 Qm [] [(0, .int x0), (1, .int x1), (2, .int x2), (3, .int x3)] 4 [] := by
    intro n4
    induction n4 with
    | zero => intro x2 x3 h; exact False.elim h
    | succ n4 ih4 =>
      intro x2 x3 h
      unfold wX10_power_4 at h
      refine g_iload_n C 3 3 x3 dX10_power_4 rfl rfl ?_
      refine g_iload_n C 1 1 x1 dX10_power_5 rfl rfl ?_
      refine g_icmp_ge C 19 dX10_power_6 (by decide) (fun c1 => ?_) (fun c1 => ?_)
      · have h := wp_t c1 h
        refine g_iload_n C 2 2 x2 dX10_power_19 rfl rfl ?_
        exact hret _ () _ _ _ dX10_power_20 h rfl
      have h := wp_f c1 h
      refine g_iload_n C 2 2 x2 dX10_power_9 rfl rfl ?_
      refine g_iload_n C 0 0 x0 dX10_power_10 rfl rfl ?_
      refine g_imul C dX10_power_11 ?_
      refine g_topi (fun y2 ey2 => ?_)
      have h := h y2 ey2
      refine g_istore_n C [(2, .int y2), (0, .int x0), (1, .int x1), (3, .int x3)] dX10_power_12 rfl (by decide) rfl ?_
      refine g_iinc C 3 x3 (x3 + (1 : Int32)) [(3, .int (x3 + (1 : Int32))), (2, .int y2), (0, .int x0), (1, .int x1)] dX10_power_13 rfl rfl (by decide) rfl ?_
      refine g_goto C 4 dX10_power_16 (by decide) ?_
      refine g_lv [2, 3, 1, 0] rfl ?_
      exact ih4  y2 (x3 + (1 : Int32)) h
  unfold wp_X10_power at h
  refine g_iconst C (1 : Int32) dX10_power_0 rfl ?_
  refine g_istore_n C [(2, .int (1 : Int32)), (0, .int x0), (1, .int x1)] dX10_power_1 rfl (by decide) rfl ?_
  refine g_iconst C (0 : Int32) dX10_power_2 rfl ?_
  refine g_istore_n C [(3, .int (0 : Int32)), (2, .int (1 : Int32)), (0, .int x0), (1, .int x1)] dX10_power_3 rfl (by decide) rfl ?_
  refine g_lv [2, 3, 1, 0] rfl ?_
  exact H4 fu  (1 : Int32) (0 : Int32) h
abbrev rmX10_factorial : Room := { frames := 0, cells := 0, slots := 0, locals := 0 }
def wX10_factorial_4 (fu : Nat) (x0 : Int32) (Q : Int32 → Prop) : Nat → Int32 → Int32 → Prop
  | 0, _, _ => False
  | n0 + 1, x1, x2 => (if x0 < x2 then Q x1 else (∀ y2 : Int32, y2 = (x1 * x2) → (wX10_factorial_4 fu x0 Q n0) y2 (x2 + (1 : Int32))))
def wp_X10_factorial (fu : Nat) (x0 : Int32) (Q : Int32 → Prop) : Prop := wX10_factorial_4 fu x0 Q fu (1 : Int32) (2 : Int32)
set_option maxHeartbeats 4000000 in
set_option maxRecDepth 100000 in
theorem c_X10_factorial (l : Launch) (D : va_G) (cI cJ cZ cW : ClassId) (x0 : Int32) (fu : Nat) (Q : Int32 → Prop) (h : wp_X10_factorial fu x0 Q) : CtI l yX10_factorial wkX10_factorial rmX10_factorial D (tys4 cI cJ cZ cW) [.int x0] [] (fun (r : Int32) (u : Unit) => Q r ) (fun (_ : Unit) => []) := by
  refine CtI.of (S := Unit) (y := yX10_factorial) (Tc := wkX10_factorial) (rm := rmX10_factorial) (D := D) (tys := tys4 cI cJ cZ cW) (av := [.int x0]) (wc := []) (post := (fun (r : Int32) (u : Unit) => Q r )) (w1 := (fun (_ : Unit) => [])) (cc := cX10_factorial) (maxL := 3) RX10 rfl (by decide +kernel) rfl rfl [(0, .int x0)] rfl ?_
  intro p e s m args below meth c A Qm C hret
  have H4 : ∀ (n4 : Nat) (x1 : Int32) (x2 : Int32), wX10_factorial_4 fu x0 Q n4 x1 x2 → G p l e rmX10_factorial s m args below meth c D A 3 0 0 Qm [] [(0, .int x0), (1, .int x1), (2, .int x2)] 4 [] := by
    intro n4
    induction n4 with
    | zero => intro x1 x2 h; exact False.elim h
    | succ n4 ih4 =>
      intro x1 x2 h
      unfold wX10_factorial_4 at h
      refine g_iload_n C 2 2 x2 dX10_factorial_4 rfl rfl ?_
      refine g_iload_n C 0 0 x0 dX10_factorial_5 rfl rfl ?_
      refine g_icmp_gt C 19 dX10_factorial_6 (by decide) (fun c1 => ?_) (fun c1 => ?_)
      · have h := wp_t c1 h
        refine g_iload_n C 1 1 x1 dX10_factorial_19 rfl rfl ?_
        exact hret _ () _ _ _ dX10_factorial_20 h rfl
      have h := wp_f c1 h
      refine g_iload_n C 1 1 x1 dX10_factorial_9 rfl rfl ?_
      refine g_iload_n C 2 2 x2 dX10_factorial_10 rfl rfl ?_
      refine g_imul C dX10_factorial_11 ?_
      refine g_topi (fun y2 ey2 => ?_)
      have h := h y2 ey2
      refine g_istore_n C [(1, .int y2), (0, .int x0), (2, .int x2)] dX10_factorial_12 rfl (by decide) rfl ?_
      refine g_iinc C 2 x2 (x2 + (1 : Int32)) [(2, .int (x2 + (1 : Int32))), (1, .int y2), (0, .int x0)] dX10_factorial_13 rfl rfl (by decide) rfl ?_
      refine g_goto C 4 dX10_factorial_16 (by decide) ?_
      refine g_lv [2, 1, 0] rfl ?_
      exact ih4  y2 (x2 + (1 : Int32)) h
  unfold wp_X10_factorial at h
  refine g_iconst C (1 : Int32) dX10_factorial_0 rfl ?_
  refine g_istore_n C [(1, .int (1 : Int32)), (0, .int x0)] dX10_factorial_1 rfl (by decide) rfl ?_
  refine g_iconst C (2 : Int32) dX10_factorial_2 rfl ?_
  refine g_istore_n C [(2, .int (2 : Int32)), (1, .int (1 : Int32)), (0, .int x0)] dX10_factorial_3 rfl (by decide) rfl ?_
  refine g_lv [2, 1, 0] rfl ?_
  exact H4 fu  (1 : Int32) (2 : Int32) h
abbrev rmX10_fraction : Room := { frames := 0, cells := 0, slots := 0, locals := 0 }
def wX10_fraction_14 (fu : Nat) (x0 : Int32) (x1 : Int32) (x2 : Int32) (Q : Int32 → Prop) : Nat → Int32 → Int32 → Prop
  | 0, _, _ => False
  | n0 + 1, x3, x4 => (if x4 = 0 then (if x2 = 0 then (¬ x3 = 0 ∧ Q (x1 / x3)) else (¬ x3 = 0 ∧ Q (x0 / x3))) else (¬ x4 = 0 ∧ (∀ y7 : Int32, y7 = (irm x3 x4) → (wX10_fraction_14 fu x0 x1 x2 Q n0) x4 y7)))
def wX10_fraction_10 (fu : Nat) (x0 : Int32) (x1 : Int32) (x2 : Int32) (Q : Int32 → Prop) (k0 : Int32) : Prop := wX10_fraction_14 fu x0 x1 x2 Q fu k0 x1
def wp_X10_fraction (fu : Nat) (x0 : Int32) (x1 : Int32) (x2 : Int32) (Q : Int32 → Prop) : Prop := (if 0 ≤ x0 then wX10_fraction_10 fu x0 x1 x2 Q x0 else wX10_fraction_10 fu x0 x1 x2 Q (-x0))
set_option maxHeartbeats 4000000 in
set_option maxRecDepth 100000 in
theorem c_X10_fraction (l : Launch) (D : va_G) (cI cJ cZ cW : ClassId) (x0 : Int32) (x1 : Int32) (x2 : Int32) (fu : Nat) (Q : Int32 → Prop) (h : wp_X10_fraction fu x0 x1 x2 Q) : CtI l yX10_fraction wkX10_fraction rmX10_fraction D (tys4 cI cJ cZ cW) [.int x0, .int x1, .int x2] [] (fun (r : Int32) (u : Unit) => Q r ) (fun (_ : Unit) => []) := by
  refine CtI.of (S := Unit) (y := yX10_fraction) (Tc := wkX10_fraction) (rm := rmX10_fraction) (D := D) (tys := tys4 cI cJ cZ cW) (av := [.int x0, .int x1, .int x2]) (wc := []) (post := (fun (r : Int32) (u : Unit) => Q r )) (w1 := (fun (_ : Unit) => [])) (cc := cX10_fraction) (maxL := 6) RX10 rfl (by decide +kernel) rfl rfl [(0, .int x0), (1, .int x1), (2, .int x2)] rfl ?_
  intro p e s m args below meth c A Qm C hret
  have H14 : ∀ (n14 : Nat) (x3 : Int32) (x4 : Int32), wX10_fraction_14 fu x0 x1 x2 Q n14 x3 x4 → G p l e rmX10_fraction s m args below meth c D A 6 0 0 Qm [] [(0, .int x0), (1, .int x1), (2, .int x2), (3, .int x3), (4, .int x4)] 14 [] := by
    intro n14
    induction n14 with
    | zero => intro x3 x4 h; exact False.elim h
    | succ n14 ih14 =>
      intro x3 x4 h
      unfold wX10_fraction_14 at h
      refine g_iload C 4 4 x4 dX10_fraction_14 rfl ?_
      refine g_if_eq C 35 dX10_fraction_16 (by decide) (fun c2 => ?_) (fun c2 => ?_)
      rotate_left
      · have h := wp_f c2 h
        refine g_iload_n C 3 3 x3 dX10_fraction_19 rfl rfl ?_
        refine g_iload C 4 4 x4 dX10_fraction_20 rfl ?_
        obtain ⟨hn6, h⟩ := h
        refine g_irem C hn6 dX10_fraction_22 ?_
        refine g_topi (fun y7 ey7 => ?_)
        have h := h y7 ey7
        refine g_istore C [(5, .int y7), (0, .int x0), (1, .int x1), (2, .int x2), (3, .int x3), (4, .int x4)] dX10_fraction_23 (by decide) rfl ?_
        refine g_iload C 4 5 x4 dX10_fraction_25 rfl ?_
        refine g_istore_n C [(3, .int x4), (5, .int y7), (0, .int x0), (1, .int x1), (2, .int x2), (4, .int x4)] dX10_fraction_27 rfl (by decide) rfl ?_
        refine g_iload C 5 1 y7 dX10_fraction_28 rfl ?_
        refine g_istore C [(4, .int y7), (3, .int x4), (5, .int y7), (0, .int x0), (1, .int x1), (2, .int x2)] dX10_fraction_30 (by decide) rfl ?_
        refine g_goto C 14 dX10_fraction_32 (by decide) ?_
        refine g_lv [3, 4, 5, 1, 0] rfl ?_
        exact ih14  x4 y7 h
      have h := wp_t c2 h
      refine g_iload_n C 2 2 x2 dX10_fraction_35 rfl rfl ?_
      refine g_if_eq C 45 dX10_fraction_36 (by decide) (fun c3 => ?_) (fun c3 => ?_)
      · have h := wp_t c3 h
        refine g_iload_n C 1 1 x1 dX10_fraction_45 rfl rfl ?_
        refine g_iload_n C 3 3 x3 dX10_fraction_46 rfl rfl ?_
        obtain ⟨hn4, h⟩ := h
        refine g_idiv C hn4 dX10_fraction_47 ?_
        exact hret _ () _ _ _ dX10_fraction_48 h rfl
      have h := wp_f c3 h
      refine g_iload_n C 0 0 x0 dX10_fraction_39 rfl rfl ?_
      refine g_iload_n C 3 3 x3 dX10_fraction_40 rfl rfl ?_
      obtain ⟨hn5, h⟩ := h
      refine g_idiv C hn5 dX10_fraction_41 ?_
      refine g_goto C 48 dX10_fraction_42 (by decide) ?_
      exact hret _ () _ _ _ dX10_fraction_48 h rfl
  have H10 : ∀ (k0 : Int32), wX10_fraction_10 fu x0 x1 x2 Q k0 → G p l e rmX10_fraction s m args below meth c D A 6 0 0 Qm [] [(0, .int x0), (1, .int x1), (2, .int x2)] 10 [.int k0] := by
    intro k0 h
    unfold wX10_fraction_10 at h
    refine g_istore_n C [(3, .int k0), (0, .int x0), (1, .int x1), (2, .int x2)] dX10_fraction_10 rfl (by decide) rfl ?_
    refine g_iload_n C 1 2 x1 dX10_fraction_11 rfl rfl ?_
    refine g_istore C [(4, .int x1), (3, .int k0), (0, .int x0), (1, .int x1), (2, .int x2)] dX10_fraction_12 (by decide) rfl ?_
    refine g_lv [2, 3, 4, 1, 0] rfl ?_
    exact H14 fu  k0 x1 h
  unfold wp_X10_fraction at h
  refine g_iload_n C 0 0 x0 dX10_fraction_0 rfl rfl ?_
  refine g_if_ge C 9 dX10_fraction_1 (by decide) (fun c1 => ?_) (fun c1 => ?_)
  · have h := wp_t c1 h
    refine g_iload_n C 0 0 x0 dX10_fraction_9 rfl rfl ?_
    refine g_lv [0, 1, 2] rfl ?_
    exact H10  x0 h
  have h := wp_f c1 h
  refine g_iload_n C 0 0 x0 dX10_fraction_4 rfl rfl ?_
  refine g_ineg C dX10_fraction_5 ?_
  refine g_goto C 10 dX10_fraction_6 (by decide) ?_
  refine g_lv [0, 1, 2] rfl ?_
  exact H10  (-x0) h
abbrev rmX10_isTick : Room := { frames := 1, cells := 0, slots := 0, locals := 25 }
def wp_X10_isTick (fu : Nat) (v_a0 : (Nat → Int32)) (x1 : Int32) (Q : Int32 → Prop) : Prop := wp_X10_in fu (Int32.toInt64 x1) (0 : Int64) (Int32.toInt64 ((v_a0 (ix (360 : Int32))) - (1 : Int32))) (fun (r1 : Int32) => Q r1)
set_option maxHeartbeats 4000000 in
set_option maxRecDepth 100000 in
theorem c_X10_isTick (l : Launch) (D : va_G) (cI cJ cZ cW : ClassId) (o_a0 : Nat) (v_a0 : (Nat → Int32)) (x1 : Int32) (fu : Nat) (Q : Int32 → Prop) (h : wp_X10_isTick fu v_a0 x1 Q) : CtI l yX10_isTick wkX10_isTick rmX10_isTick D (tys4 cI cJ cZ cW) [.ref o_a0, .int x1] [(o_a0, .inl (cI, 361, .inl v_a0))] (fun (r : Int32) (u : Unit) => (r = 0 ∨ r = 1) ∧ (fun (r : Int32) (u : Unit) => Q r ) r u) (fun (_ : Unit) => [(o_a0, .inl (cI, 361, .inl v_a0))]) := by
  refine CtI.ofZ (S := Unit) (y := yX10_isTick) (Tc := wkX10_isTick) (rm := rmX10_isTick) (D := D) (tys := tys4 cI cJ cZ cW) (av := [.ref o_a0, .int x1]) (wc := [(o_a0, .inl (cI, 361, .inl v_a0))]) (post := (fun (r : Int32) (u : Unit) => Q r )) (w1 := (fun (_ : Unit) => [(o_a0, .inl (cI, 361, .inl v_a0))])) (cc := cX10_isTick) (maxL := 2) RX10 rfl (by decide +kernel) rfl rfl [(0, .ref o_a0), (1, .int x1)] rfl ?_
  intro p e s m args below meth c A Qm C hret
  unfold wp_X10_isTick at h
  refine g_iload_n C 1 1 x1 dX10_isTick_0 rfl rfl ?_
  refine g_i2l C dX10_isTick_1 ?_
  refine g_lconst C (0 : Int64) dX10_isTick_2 rfl ?_
  refine g_aload_n C 0 0 o_a0 dX10_isTick_3 rfl rfl ?_
  refine g_sipush C (360 : Int32) dX10_isTick_4 rfl ?_
  refine g_iald C 0 0 cI 361 v_a0 rfl rfl (vp_in_dec rfl) dX10_isTick_7 ?_
  refine g_iconst C (1 : Int32) dX10_isTick_8 rfl ?_
  refine g_isub C dX10_isTick_9 ?_
  refine g_i2l C dX10_isTick_10 ?_
  refine g_callSi0 (As := [.long (Int32.toInt64 x1), .long (0 : Int64), .long (Int32.toInt64 ((v_a0 (ix (360 : Int32))) - (1 : Int32)))]) (rest := []) C (c_X10_in l D cI cJ cZ cW (Int32.toInt64 x1) (0 : Int64) (Int32.toInt64 ((v_a0 (ix (360 : Int32))) - (1 : Int32))) fu _ h) 3 gd_X10_53 rfl rfl rfl (by decide +kernel) ⟨Nat.le_of_ble_eq_true rfl, Nat.le_of_ble_eq_true rfl⟩ ⟨Nat.le_of_ble_eq_true rfl, Nat.le_of_ble_eq_true rfl⟩ rfl rfl (Nat.le_of_ble_eq_true rfl) [] rfl rfl dX10_isTick_11 (fun r1 h => ?_)
  obtain ⟨hzr1, h⟩ := h
  exact hret _ () _ _ _ hzr1 dX10_isTick_14 h rfl
abbrev rmX10_write : Room := { frames := 1, cells := 0, slots := 0, locals := 25 }
def wp_X10_write (fu : Nat) (x1 : Int32) (v_length : Int32) (v_text : (Nat → Int32)) (Q : Int32 → Int32 → (Nat → Int32) → Prop) : Prop := wp_X10_in fu (Int32.toInt64 x1) (0 : Int64) (255 : Int64) (fun (r1 : Int32) => (if r1 = 0 then Q (-2 : Int32) v_length v_text else (if v_length = (99 : Int32) then Q (-4 : Int32) v_length v_text else (vp_in v_length 99 ∧ Q (v_length + (1 : Int32)) (v_length + (1 : Int32)) (upd v_text (ix v_length) x1)))))
set_option maxHeartbeats 4000000 in
set_option maxRecDepth 100000 in
theorem c_X10_write (l : Launch) (D : va_G) (cI cJ cZ cW : ClassId) (o o_text o_now o_trial o_diary o_kept o_isKept o_knownPlace o_knownLetter o_letters o_starts o_bestLetters o_deep o_worth o_readTicks : Nat) (v_length : Int32) (v_acts : Int32) (v_next : Int32) (v_known : Int32) (v_seed : Int64) (v_wide : Int32) (v_bits : Int32) (v_parity : Int32) (v_stops : Int32) (v_idle : Int32) (v_frames : Int32) (v_failed : Int32) (v_failedAt : Int32) (v_margin : Int32) (v_bestFrames : Int32) (v_alike : Int32) (v_fitting : Int32) (v_readLevel : Int32) (v_readMany : Int32) (v_part : Int32) (v_ten : Int32) (v_text : (Nat → Int32)) (x1 : Int32) (fu : Nat) (Q : Int32 → Int32 → (Nat → Int32) → Prop) (h : wp_X10_write fu x1 v_length v_text Q) : CtI l yX10_write wkX10_write rmX10_write D (tys4 cI cJ cZ cW) [.ref o, .int x1] [(o, .inr (10, [.ref o_text, .int v_length, .ref o_now, .ref o_trial, .ref o_diary, .int v_acts, .int v_next, .ref o_kept, .ref o_isKept, .ref o_knownPlace, .ref o_knownLetter, .int v_known, .long v_seed, .int v_wide, .int v_bits, .int v_parity, .int v_stops, .int v_idle, .int v_frames, .int v_failed, .int v_failedAt, .int v_margin, .ref o_letters, .ref o_starts, .int v_bestFrames, .ref o_bestLetters, .int v_alike, .int v_fitting, .ref o_deep, .ref o_worth, .int v_readLevel, .int v_readMany, .ref o_readTicks, .int v_part, .int v_ten])), (o_text, .inl (cI, 99, .inl v_text))] (fun (r : Int32) (u : Int32 × (Nat → Int32)) => Q r u.1 u.2) (fun (u : Int32 × (Nat → Int32)) => [(o, .inr (10, [.ref o_text, .int u.1, .ref o_now, .ref o_trial, .ref o_diary, .int v_acts, .int v_next, .ref o_kept, .ref o_isKept, .ref o_knownPlace, .ref o_knownLetter, .int v_known, .long v_seed, .int v_wide, .int v_bits, .int v_parity, .int v_stops, .int v_idle, .int v_frames, .int v_failed, .int v_failedAt, .int v_margin, .ref o_letters, .ref o_starts, .int v_bestFrames, .ref o_bestLetters, .int v_alike, .int v_fitting, .ref o_deep, .ref o_worth, .int v_readLevel, .int v_readMany, .ref o_readTicks, .int v_part, .int v_ten])), (o_text, .inl (cI, 99, .inl u.2))]) := by
  refine CtI.of (S := Int32 × (Nat → Int32)) (y := yX10_write) (Tc := wkX10_write) (rm := rmX10_write) (D := D) (tys := tys4 cI cJ cZ cW) (av := [.ref o, .int x1]) (wc := [(o, .inr (10, [.ref o_text, .int v_length, .ref o_now, .ref o_trial, .ref o_diary, .int v_acts, .int v_next, .ref o_kept, .ref o_isKept, .ref o_knownPlace, .ref o_knownLetter, .int v_known, .long v_seed, .int v_wide, .int v_bits, .int v_parity, .int v_stops, .int v_idle, .int v_frames, .int v_failed, .int v_failedAt, .int v_margin, .ref o_letters, .ref o_starts, .int v_bestFrames, .ref o_bestLetters, .int v_alike, .int v_fitting, .ref o_deep, .ref o_worth, .int v_readLevel, .int v_readMany, .ref o_readTicks, .int v_part, .int v_ten])), (o_text, .inl (cI, 99, .inl v_text))]) (post := (fun (r : Int32) (u : Int32 × (Nat → Int32)) => Q r u.1 u.2)) (w1 := (fun (u : Int32 × (Nat → Int32)) => [(o, .inr (10, [.ref o_text, .int u.1, .ref o_now, .ref o_trial, .ref o_diary, .int v_acts, .int v_next, .ref o_kept, .ref o_isKept, .ref o_knownPlace, .ref o_knownLetter, .int v_known, .long v_seed, .int v_wide, .int v_bits, .int v_parity, .int v_stops, .int v_idle, .int v_frames, .int v_failed, .int v_failedAt, .int v_margin, .ref o_letters, .ref o_starts, .int v_bestFrames, .ref o_bestLetters, .int v_alike, .int v_fitting, .ref o_deep, .ref o_worth, .int v_readLevel, .int v_readMany, .ref o_readTicks, .int v_part, .int v_ten])), (o_text, .inl (cI, 99, .inl u.2))])) (cc := cX10_write) (maxL := 2) RX10 rfl (by decide +kernel) rfl rfl [(0, .ref o), (1, .int x1)] rfl ?_
  intro p e s m args below meth c A Qm C hret
  unfold wp_X10_write at h
  refine g_iload_n C 1 1 x1 dX10_write_0 rfl rfl ?_
  refine g_i2l C dX10_write_1 ?_
  refine g_lconst C (0 : Int64) dX10_write_2 rfl ?_
  refine g_ldc2 C (255 : Int64) wm_161 dX10_write_3 ?_
  refine g_callSi0 (As := [.long (Int32.toInt64 x1), .long (0 : Int64), .long (255 : Int64)]) (rest := []) C (c_X10_in l D cI cJ cZ cW (Int32.toInt64 x1) (0 : Int64) (255 : Int64) fu _ h) 3 gd_X10_53 rfl rfl rfl (by decide +kernel) ⟨Nat.le_of_ble_eq_true rfl, Nat.le_of_ble_eq_true rfl⟩ ⟨Nat.le_of_ble_eq_true rfl, Nat.le_of_ble_eq_true rfl⟩ rfl rfl (Nat.le_of_ble_eq_true rfl) [] rfl rfl dX10_write_6 (fun r1 h => ?_)
  obtain ⟨hzr1, h⟩ := h
  refine g_if_ne C 15 dX10_write_9 (by decide) (fun c2 => ?_) (fun c2 => ?_)
  rotate_left
  · have h := wp_t c2 h
    refine g_bipush C (-2 : Int32) dX10_write_12 rfl ?_
    exact hret _ (v_length, v_text) _ _ _ dX10_write_14 h rfl
  have h := wp_f c2 h
  refine g_aload_n C 0 0 o dX10_write_15 rfl rfl ?_
  refine g_get C 10 ix_10 0 _ rfl rfl 1 (by decide) wm_162 rfl (.int v_length) rfl dX10_write_16 ?_
  refine g_bipush C (99 : Int32) dX10_write_19 rfl ?_
  refine g_icmp_ne C 27 dX10_write_21 (by decide) (fun c3 => ?_) (fun c3 => ?_)
  rotate_left
  · have h := wp_t c3 h
    refine g_bipush C (-4 : Int32) dX10_write_24 rfl ?_
    exact hret _ (v_length, v_text) _ _ _ dX10_write_26 h rfl
  have h := wp_f c3 h
  refine g_aload_n C 0 0 o dX10_write_27 rfl rfl ?_
  refine g_get C 10 ix_10 0 _ rfl rfl 0 (by decide) wm_127 rfl (.ref o_text) rfl dX10_write_28 ?_
  refine g_aload_n C 0 0 o dX10_write_31 rfl rfl ?_
  refine g_get C 10 ix_10 0 _ rfl rfl 1 (by decide) wm_162 rfl (.int v_length) rfl dX10_write_32 ?_
  refine g_iload_n C 1 1 x1 dX10_write_35 rfl rfl ?_
  obtain ⟨hi4, h⟩ := h
  refine g_iast C 1 0 cI 99 v_text rfl rfl hi4 dX10_write_36 [(o, .inr (10, [.ref o_text, .int v_length, .ref o_now, .ref o_trial, .ref o_diary, .int v_acts, .int v_next, .ref o_kept, .ref o_isKept, .ref o_knownPlace, .ref o_knownLetter, .int v_known, .long v_seed, .int v_wide, .int v_bits, .int v_parity, .int v_stops, .int v_idle, .int v_frames, .int v_failed, .int v_failedAt, .int v_margin, .ref o_letters, .ref o_starts, .int v_bestFrames, .ref o_bestLetters, .int v_alike, .int v_fitting, .ref o_deep, .ref o_worth, .int v_readLevel, .int v_readMany, .ref o_readTicks, .int v_part, .int v_ten])), (o_text, .inl (cI, 99, .inl (upd v_text (ix v_length) x1)))] rfl ?_
  refine g_aload_n C 0 0 o dX10_write_37 rfl rfl ?_
  refine g_dup C dX10_write_38 rfl ?_
  refine g_get C 10 ix_10 0 _ rfl rfl 1 (by decide) wm_162 rfl (.int v_length) rfl dX10_write_39 ?_
  refine g_iconst C (1 : Int32) dX10_write_42 rfl ?_
  refine g_iadd C dX10_write_43 ?_
  refine g_put C 10 ix_10 0 _ rfl rfl 1 (by decide) wm_162 rfl tyX10 tyX10_ok nmX10 rfl rfl rfl (Nat.le_of_ble_eq_true rfl) dX10_write_44 [(o, .inr (10, [.ref o_text, .int (v_length + (1 : Int32)), .ref o_now, .ref o_trial, .ref o_diary, .int v_acts, .int v_next, .ref o_kept, .ref o_isKept, .ref o_knownPlace, .ref o_knownLetter, .int v_known, .long v_seed, .int v_wide, .int v_bits, .int v_parity, .int v_stops, .int v_idle, .int v_frames, .int v_failed, .int v_failedAt, .int v_margin, .ref o_letters, .ref o_starts, .int v_bestFrames, .ref o_bestLetters, .int v_alike, .int v_fitting, .ref o_deep, .ref o_worth, .int v_readLevel, .int v_readMany, .ref o_readTicks, .int v_part, .int v_ten])), (o_text, .inl (cI, 99, .inl (upd v_text (ix v_length) x1)))] rfl ?_
  refine g_aload_n C 0 0 o dX10_write_47 rfl rfl ?_
  refine g_get C 10 ix_10 0 _ rfl rfl 1 (by decide) wm_162 rfl (.int (v_length + (1 : Int32))) rfl dX10_write_48 ?_
  exact hret _ ((v_length + (1 : Int32)), (upd v_text (ix v_length) x1)) _ _ _ dX10_write_51 h rfl
abbrev rmX10_wipe : Room := { frames := 0, cells := 0, slots := 0, locals := 0 }
def wp_X10_wipe (fu : Nat) (v_length : Int32) (Q : Int32 → Int32 → Prop) : Prop := Q v_length (0 : Int32)
set_option maxHeartbeats 4000000 in
set_option maxRecDepth 100000 in
theorem c_X10_wipe (l : Launch) (D : va_G) (cI cJ cZ cW : ClassId) (o o_text o_now o_trial o_diary o_kept o_isKept o_knownPlace o_knownLetter o_letters o_starts o_bestLetters o_deep o_worth o_readTicks : Nat) (v_length : Int32) (v_acts : Int32) (v_next : Int32) (v_known : Int32) (v_seed : Int64) (v_wide : Int32) (v_bits : Int32) (v_parity : Int32) (v_stops : Int32) (v_idle : Int32) (v_frames : Int32) (v_failed : Int32) (v_failedAt : Int32) (v_margin : Int32) (v_bestFrames : Int32) (v_alike : Int32) (v_fitting : Int32) (v_readLevel : Int32) (v_readMany : Int32) (v_part : Int32) (v_ten : Int32) (fu : Nat) (Q : Int32 → Int32 → Prop) (h : wp_X10_wipe fu v_length Q) : CtI l yX10_wipe wkX10_wipe rmX10_wipe D (tys4 cI cJ cZ cW) [.ref o] [(o, .inr (10, [.ref o_text, .int v_length, .ref o_now, .ref o_trial, .ref o_diary, .int v_acts, .int v_next, .ref o_kept, .ref o_isKept, .ref o_knownPlace, .ref o_knownLetter, .int v_known, .long v_seed, .int v_wide, .int v_bits, .int v_parity, .int v_stops, .int v_idle, .int v_frames, .int v_failed, .int v_failedAt, .int v_margin, .ref o_letters, .ref o_starts, .int v_bestFrames, .ref o_bestLetters, .int v_alike, .int v_fitting, .ref o_deep, .ref o_worth, .int v_readLevel, .int v_readMany, .ref o_readTicks, .int v_part, .int v_ten]))] (fun (r : Int32) (u : Int32) => Q r u) (fun (u : Int32) => [(o, .inr (10, [.ref o_text, .int u, .ref o_now, .ref o_trial, .ref o_diary, .int v_acts, .int v_next, .ref o_kept, .ref o_isKept, .ref o_knownPlace, .ref o_knownLetter, .int v_known, .long v_seed, .int v_wide, .int v_bits, .int v_parity, .int v_stops, .int v_idle, .int v_frames, .int v_failed, .int v_failedAt, .int v_margin, .ref o_letters, .ref o_starts, .int v_bestFrames, .ref o_bestLetters, .int v_alike, .int v_fitting, .ref o_deep, .ref o_worth, .int v_readLevel, .int v_readMany, .ref o_readTicks, .int v_part, .int v_ten]))]) := by
  refine CtI.of (S := Int32) (y := yX10_wipe) (Tc := wkX10_wipe) (rm := rmX10_wipe) (D := D) (tys := tys4 cI cJ cZ cW) (av := [.ref o]) (wc := [(o, .inr (10, [.ref o_text, .int v_length, .ref o_now, .ref o_trial, .ref o_diary, .int v_acts, .int v_next, .ref o_kept, .ref o_isKept, .ref o_knownPlace, .ref o_knownLetter, .int v_known, .long v_seed, .int v_wide, .int v_bits, .int v_parity, .int v_stops, .int v_idle, .int v_frames, .int v_failed, .int v_failedAt, .int v_margin, .ref o_letters, .ref o_starts, .int v_bestFrames, .ref o_bestLetters, .int v_alike, .int v_fitting, .ref o_deep, .ref o_worth, .int v_readLevel, .int v_readMany, .ref o_readTicks, .int v_part, .int v_ten]))]) (post := (fun (r : Int32) (u : Int32) => Q r u)) (w1 := (fun (u : Int32) => [(o, .inr (10, [.ref o_text, .int u, .ref o_now, .ref o_trial, .ref o_diary, .int v_acts, .int v_next, .ref o_kept, .ref o_isKept, .ref o_knownPlace, .ref o_knownLetter, .int v_known, .long v_seed, .int v_wide, .int v_bits, .int v_parity, .int v_stops, .int v_idle, .int v_frames, .int v_failed, .int v_failedAt, .int v_margin, .ref o_letters, .ref o_starts, .int v_bestFrames, .ref o_bestLetters, .int v_alike, .int v_fitting, .ref o_deep, .ref o_worth, .int v_readLevel, .int v_readMany, .ref o_readTicks, .int v_part, .int v_ten]))])) (cc := cX10_wipe) (maxL := 2) RX10 rfl (by decide +kernel) rfl rfl [(0, .ref o)] rfl ?_
  intro p e s m args below meth c A Qm C hret
  unfold wp_X10_wipe at h
  refine g_aload_n C 0 0 o dX10_wipe_0 rfl rfl ?_
  refine g_get C 10 ix_10 0 _ rfl rfl 1 (by decide) wm_162 rfl (.int v_length) rfl dX10_wipe_1 ?_
  refine g_istore_n C [(1, .int v_length), (0, .ref o)] dX10_wipe_4 rfl (by decide) rfl ?_
  refine g_aload_n C 0 1 o dX10_wipe_5 rfl rfl ?_
  refine g_iconst C (0 : Int32) dX10_wipe_6 rfl ?_
  refine g_put C 10 ix_10 0 _ rfl rfl 1 (by decide) wm_162 rfl tyX10 tyX10_ok nmX10 rfl rfl rfl (Nat.le_of_ble_eq_true rfl) dX10_wipe_7 [(o, .inr (10, [.ref o_text, .int (0 : Int32), .ref o_now, .ref o_trial, .ref o_diary, .int v_acts, .int v_next, .ref o_kept, .ref o_isKept, .ref o_knownPlace, .ref o_knownLetter, .int v_known, .long v_seed, .int v_wide, .int v_bits, .int v_parity, .int v_stops, .int v_idle, .int v_frames, .int v_failed, .int v_failedAt, .int v_margin, .ref o_letters, .ref o_starts, .int v_bestFrames, .ref o_bestLetters, .int v_alike, .int v_fitting, .ref o_deep, .ref o_worth, .int v_readLevel, .int v_readMany, .ref o_readTicks, .int v_part, .int v_ten]))] rfl ?_
  refine g_iload_n C 1 0 v_length dX10_wipe_10 rfl rfl ?_
  exact hret _ (0 : Int32) _ _ _ dX10_wipe_11 h rfl
abbrev rmX10_takeLetter : Room := { frames := 1, cells := 0, slots := 0, locals := 25 }
def wX10_takeLetter_148 (fu : Nat) (x1 : Int32) (Q : Int32 → Int32 → Int32 → Int32 → Int32 → (Nat → Int32) → Prop) : Nat → Int32 → Int32 → Int32 → Int32 → Int32 → Int32 → (Nat → Int32) → Prop
  | 0, _, _, _, _, _, _, _ => False
  | n0 + 1, x3, x4, v_part, v_readLevel, v_readMany, v_ten, v_readTicks => (if x3 ≤ x4 then Q (1 : Int32) (0 : Int32) ((1 : Int32) - v_readLevel) (v_readMany + x3) v_ten v_readTicks else (vp_in (v_readMany + x4) 360 ∧ (wX10_takeLetter_148 fu x1 Q n0) x3 (x4 + (1 : Int32)) v_part v_readLevel v_readMany v_ten (upd v_readTicks (ix (v_readMany + x4)) v_readLevel)))
def wX10_takeLetter_92 (fu : Nat) (x1 : Int32) (Q : Int32 → Int32 → Int32 → Int32 → Int32 → (Nat → Int32) → Prop) (k0 : Int32) (k1 : Int32) (v_part : Int32) (v_readLevel : Int32) (v_readMany : Int32) (v_ten : Int32) (v_readTicks : (Nat → Int32)) : Prop := (if (360 : Int32) < (k0 + k1) then Q (0 : Int32) v_part v_readLevel v_readMany v_ten v_readTicks else Q (1 : Int32) v_part v_readLevel v_readMany v_ten v_readTicks)
def wp_X10_takeLetter (fu : Nat) (x1 : Int32) (v_part : Int32) (v_readLevel : Int32) (v_readMany : Int32) (v_ten : Int32) (v_readTicks : (Nat → Int32)) (Q : Int32 → Int32 → Int32 → Int32 → Int32 → (Nat → Int32) → Prop) : Prop := (∀ y1 : Int32, y1 = (x1 - (48 : Int32)) → (if v_part = (1 : Int32) then wp_X10_in fu (Int32.toInt64 y1) (0 : Int64) (1 : Int64) (fun (r2 : Int32) => Q r2 (0 : Int32) y1 v_readMany v_ten v_readTicks) else (if v_part = (2 : Int32) then wp_X10_in fu (Int32.toInt64 y1) (0 : Int64) (9 : Int64) (fun (r3 : Int32) => (if r3 = 0 then Q (0 : Int32) (3 : Int32) v_readLevel v_readMany y1 v_readTicks else (if y1 = 0 then wX10_takeLetter_92 fu x1 Q v_readMany (1 : Int32) (3 : Int32) v_readLevel v_readMany y1 v_readTicks else wX10_takeLetter_92 fu x1 Q v_readMany ((10 : Int32) * y1) (3 : Int32) v_readLevel v_readMany y1 v_readTicks))) else (if v_part = (3 : Int32) then (∀ y6 : Int32, y6 = (((10 : Int32) * v_ten) + y1) → wp_X10_in fu (Int32.toInt64 y1) (0 : Int64) (9 : Int64) (fun (r7 : Int32) => (if r7 = 0 then Q (0 : Int32) v_part v_readLevel v_readMany v_ten v_readTicks else (if y6 = 0 then Q (0 : Int32) v_part v_readLevel v_readMany v_ten v_readTicks else (if (v_readMany + y6) ≤ (360 : Int32) then wX10_takeLetter_148 fu x1 Q fu y6 (0 : Int32) v_part v_readLevel v_readMany v_ten v_readTicks else Q (0 : Int32) v_part v_readLevel v_readMany v_ten v_readTicks))))) else (if x1 = (114 : Int32) then (if (360 : Int32) ≤ v_readMany then Q (0 : Int32) (2 : Int32) v_readLevel v_readMany v_ten v_readTicks else Q (1 : Int32) (2 : Int32) v_readLevel v_readMany v_ten v_readTicks) else Q (0 : Int32) (2 : Int32) v_readLevel v_readMany v_ten v_readTicks)))))
set_option maxHeartbeats 4000000 in
set_option maxRecDepth 100000 in
theorem c_X10_takeLetter (l : Launch) (D : va_G) (cI cJ cZ cW : ClassId) (o o_text o_now o_trial o_diary o_kept o_isKept o_knownPlace o_knownLetter o_letters o_starts o_bestLetters o_deep o_worth o_readTicks : Nat) (v_length : Int32) (v_acts : Int32) (v_next : Int32) (v_known : Int32) (v_seed : Int64) (v_wide : Int32) (v_bits : Int32) (v_parity : Int32) (v_stops : Int32) (v_idle : Int32) (v_frames : Int32) (v_failed : Int32) (v_failedAt : Int32) (v_margin : Int32) (v_bestFrames : Int32) (v_alike : Int32) (v_fitting : Int32) (v_readLevel : Int32) (v_readMany : Int32) (v_part : Int32) (v_ten : Int32) (v_readTicks : (Nat → Int32)) (x1 : Int32) (fu : Nat) (Q : Int32 → Int32 → Int32 → Int32 → Int32 → (Nat → Int32) → Prop) (h : wp_X10_takeLetter fu x1 v_part v_readLevel v_readMany v_ten v_readTicks Q) : CtI l yX10_takeLetter wkX10_takeLetter rmX10_takeLetter D (tys4 cI cJ cZ cW) [.ref o, .int x1] [(o, .inr (10, [.ref o_text, .int v_length, .ref o_now, .ref o_trial, .ref o_diary, .int v_acts, .int v_next, .ref o_kept, .ref o_isKept, .ref o_knownPlace, .ref o_knownLetter, .int v_known, .long v_seed, .int v_wide, .int v_bits, .int v_parity, .int v_stops, .int v_idle, .int v_frames, .int v_failed, .int v_failedAt, .int v_margin, .ref o_letters, .ref o_starts, .int v_bestFrames, .ref o_bestLetters, .int v_alike, .int v_fitting, .ref o_deep, .ref o_worth, .int v_readLevel, .int v_readMany, .ref o_readTicks, .int v_part, .int v_ten])), (o_readTicks, .inl (cI, 360, .inl v_readTicks))] (fun (r : Int32) (u : Int32 × Int32 × Int32 × Int32 × (Nat → Int32)) => (r = 0 ∨ r = 1) ∧ (fun (r : Int32) (u : Int32 × Int32 × Int32 × Int32 × (Nat → Int32)) => Q r u.1 u.2.1 u.2.2.1 u.2.2.2.1 u.2.2.2.2) r u) (fun (u : Int32 × Int32 × Int32 × Int32 × (Nat → Int32)) => [(o, .inr (10, [.ref o_text, .int v_length, .ref o_now, .ref o_trial, .ref o_diary, .int v_acts, .int v_next, .ref o_kept, .ref o_isKept, .ref o_knownPlace, .ref o_knownLetter, .int v_known, .long v_seed, .int v_wide, .int v_bits, .int v_parity, .int v_stops, .int v_idle, .int v_frames, .int v_failed, .int v_failedAt, .int v_margin, .ref o_letters, .ref o_starts, .int v_bestFrames, .ref o_bestLetters, .int v_alike, .int v_fitting, .ref o_deep, .ref o_worth, .int u.2.1, .int u.2.2.1, .ref o_readTicks, .int u.1, .int u.2.2.2.1])), (o_readTicks, .inl (cI, 360, .inl u.2.2.2.2))]) := by
  refine CtI.ofZ (S := Int32 × Int32 × Int32 × Int32 × (Nat → Int32)) (y := yX10_takeLetter) (Tc := wkX10_takeLetter) (rm := rmX10_takeLetter) (D := D) (tys := tys4 cI cJ cZ cW) (av := [.ref o, .int x1]) (wc := [(o, .inr (10, [.ref o_text, .int v_length, .ref o_now, .ref o_trial, .ref o_diary, .int v_acts, .int v_next, .ref o_kept, .ref o_isKept, .ref o_knownPlace, .ref o_knownLetter, .int v_known, .long v_seed, .int v_wide, .int v_bits, .int v_parity, .int v_stops, .int v_idle, .int v_frames, .int v_failed, .int v_failedAt, .int v_margin, .ref o_letters, .ref o_starts, .int v_bestFrames, .ref o_bestLetters, .int v_alike, .int v_fitting, .ref o_deep, .ref o_worth, .int v_readLevel, .int v_readMany, .ref o_readTicks, .int v_part, .int v_ten])), (o_readTicks, .inl (cI, 360, .inl v_readTicks))]) (post := (fun (r : Int32) (u : Int32 × Int32 × Int32 × Int32 × (Nat → Int32)) => Q r u.1 u.2.1 u.2.2.1 u.2.2.2.1 u.2.2.2.2)) (w1 := (fun (u : Int32 × Int32 × Int32 × Int32 × (Nat → Int32)) => [(o, .inr (10, [.ref o_text, .int v_length, .ref o_now, .ref o_trial, .ref o_diary, .int v_acts, .int v_next, .ref o_kept, .ref o_isKept, .ref o_knownPlace, .ref o_knownLetter, .int v_known, .long v_seed, .int v_wide, .int v_bits, .int v_parity, .int v_stops, .int v_idle, .int v_frames, .int v_failed, .int v_failedAt, .int v_margin, .ref o_letters, .ref o_starts, .int v_bestFrames, .ref o_bestLetters, .int v_alike, .int v_fitting, .ref o_deep, .ref o_worth, .int u.2.1, .int u.2.2.1, .ref o_readTicks, .int u.1, .int u.2.2.2.1])), (o_readTicks, .inl (cI, 360, .inl u.2.2.2.2))])) (cc := cX10_takeLetter) (maxL := 5) RX10 rfl (by decide +kernel) rfl rfl [(0, .ref o), (1, .int x1)] rfl ?_
  intro p e s m args below meth c A Qm C hret
  have H148 : ∀ (n148 : Nat) (x3 : Int32) (x4 : Int32) (v_part : Int32) (v_readLevel : Int32) (v_readMany : Int32) (v_ten : Int32) (v_readTicks : (Nat → Int32)), wX10_takeLetter_148 fu x1 Q n148 x3 x4 v_part v_readLevel v_readMany v_ten v_readTicks → G p l e rmX10_takeLetter s m args below meth c D A 5 0 0 Qm [(o, .inr (10, [.ref o_text, .int v_length, .ref o_now, .ref o_trial, .ref o_diary, .int v_acts, .int v_next, .ref o_kept, .ref o_isKept, .ref o_knownPlace, .ref o_knownLetter, .int v_known, .long v_seed, .int v_wide, .int v_bits, .int v_parity, .int v_stops, .int v_idle, .int v_frames, .int v_failed, .int v_failedAt, .int v_margin, .ref o_letters, .ref o_starts, .int v_bestFrames, .ref o_bestLetters, .int v_alike, .int v_fitting, .ref o_deep, .ref o_worth, .int v_readLevel, .int v_readMany, .ref o_readTicks, .int v_part, .int v_ten])), (o_readTicks, .inl (cI, 360, .inl v_readTicks))] [(0, .ref o), (3, .int x3), (4, .int x4)] 148 [] := by
    intro n148
    induction n148 with
    | zero => intro x3 x4 v_part v_readLevel v_readMany v_ten v_readTicks h; exact False.elim h
    | succ n148 ih148 =>
      intro x3 x4 v_part v_readLevel v_readMany v_ten v_readTicks h
      unfold wX10_takeLetter_148 at h
      refine g_iload C 4 2 x4 dX10_takeLetter_148 rfl ?_
      refine g_iload_n C 3 1 x3 dX10_takeLetter_150 rfl rfl ?_
      refine g_icmp_ge C 176 dX10_takeLetter_151 (by decide) (fun c17 => ?_) (fun c17 => ?_)
      rotate_left
      · have h := wp_f c17 h
        refine g_aload_n C 0 0 o dX10_takeLetter_154 rfl rfl ?_
        refine g_get C 10 ix_10 0 _ rfl rfl 32 (by decide) wm_140 rfl (.ref o_readTicks) rfl dX10_takeLetter_155 ?_
        refine g_aload_n C 0 0 o dX10_takeLetter_158 rfl rfl ?_
        refine g_get C 10 ix_10 0 _ rfl rfl 31 (by decide) wm_206 rfl (.int v_readMany) rfl dX10_takeLetter_159 ?_
        refine g_iload C 4 2 x4 dX10_takeLetter_162 rfl ?_
        refine g_iadd C dX10_takeLetter_164 ?_
        refine g_aload_n C 0 0 o dX10_takeLetter_165 rfl rfl ?_
        refine g_get C 10 ix_10 0 _ rfl rfl 30 (by decide) wm_212 rfl (.int v_readLevel) rfl dX10_takeLetter_166 ?_
        obtain ⟨hi18, h⟩ := h
        refine g_iast C 1 0 cI 360 v_readTicks rfl rfl hi18 dX10_takeLetter_169 [(o, .inr (10, [.ref o_text, .int v_length, .ref o_now, .ref o_trial, .ref o_diary, .int v_acts, .int v_next, .ref o_kept, .ref o_isKept, .ref o_knownPlace, .ref o_knownLetter, .int v_known, .long v_seed, .int v_wide, .int v_bits, .int v_parity, .int v_stops, .int v_idle, .int v_frames, .int v_failed, .int v_failedAt, .int v_margin, .ref o_letters, .ref o_starts, .int v_bestFrames, .ref o_bestLetters, .int v_alike, .int v_fitting, .ref o_deep, .ref o_worth, .int v_readLevel, .int v_readMany, .ref o_readTicks, .int v_part, .int v_ten])), (o_readTicks, .inl (cI, 360, .inl (upd v_readTicks (ix (v_readMany + x4)) v_readLevel)))] rfl ?_
        refine g_iinc C 2 x4 (x4 + (1 : Int32)) [(4, .int (x4 + (1 : Int32))), (0, .ref o), (3, .int x3)] dX10_takeLetter_170 rfl rfl (by decide) rfl ?_
        refine g_goto C 148 dX10_takeLetter_173 (by decide) ?_
        refine g_lv [1, 2, 0] rfl ?_
        exact ih148  x3 (x4 + (1 : Int32)) v_part v_readLevel v_readMany v_ten (upd v_readTicks (ix (v_readMany + x4)) v_readLevel) h
      have h := wp_t c17 h
      refine g_aload_n C 0 0 o dX10_takeLetter_176 rfl rfl ?_
      refine g_dup C dX10_takeLetter_177 rfl ?_
      refine g_get C 10 ix_10 0 _ rfl rfl 31 (by decide) wm_206 rfl (.int v_readMany) rfl dX10_takeLetter_178 ?_
      refine g_iload_n C 3 1 x3 dX10_takeLetter_181 rfl rfl ?_
      refine g_iadd C dX10_takeLetter_182 ?_
      refine g_put C 10 ix_10 0 _ rfl rfl 31 (by decide) wm_206 rfl tyX10 tyX10_ok nmX10 rfl rfl rfl (Nat.le_of_ble_eq_true rfl) dX10_takeLetter_183 [(o, .inr (10, [.ref o_text, .int v_length, .ref o_now, .ref o_trial, .ref o_diary, .int v_acts, .int v_next, .ref o_kept, .ref o_isKept, .ref o_knownPlace, .ref o_knownLetter, .int v_known, .long v_seed, .int v_wide, .int v_bits, .int v_parity, .int v_stops, .int v_idle, .int v_frames, .int v_failed, .int v_failedAt, .int v_margin, .ref o_letters, .ref o_starts, .int v_bestFrames, .ref o_bestLetters, .int v_alike, .int v_fitting, .ref o_deep, .ref o_worth, .int v_readLevel, .int (v_readMany + x3), .ref o_readTicks, .int v_part, .int v_ten])), (o_readTicks, .inl (cI, 360, .inl v_readTicks))] rfl ?_
      refine g_aload_n C 0 0 o dX10_takeLetter_186 rfl rfl ?_
      refine g_iconst C (1 : Int32) dX10_takeLetter_187 rfl ?_
      refine g_aload_n C 0 0 o dX10_takeLetter_188 rfl rfl ?_
      refine g_get C 10 ix_10 0 _ rfl rfl 30 (by decide) wm_212 rfl (.int v_readLevel) rfl dX10_takeLetter_189 ?_
      refine g_isub C dX10_takeLetter_192 ?_
      refine g_put C 10 ix_10 0 _ rfl rfl 30 (by decide) wm_212 rfl tyX10 tyX10_ok nmX10 rfl rfl rfl (Nat.le_of_ble_eq_true rfl) dX10_takeLetter_193 [(o, .inr (10, [.ref o_text, .int v_length, .ref o_now, .ref o_trial, .ref o_diary, .int v_acts, .int v_next, .ref o_kept, .ref o_isKept, .ref o_knownPlace, .ref o_knownLetter, .int v_known, .long v_seed, .int v_wide, .int v_bits, .int v_parity, .int v_stops, .int v_idle, .int v_frames, .int v_failed, .int v_failedAt, .int v_margin, .ref o_letters, .ref o_starts, .int v_bestFrames, .ref o_bestLetters, .int v_alike, .int v_fitting, .ref o_deep, .ref o_worth, .int ((1 : Int32) - v_readLevel), .int (v_readMany + x3), .ref o_readTicks, .int v_part, .int v_ten])), (o_readTicks, .inl (cI, 360, .inl v_readTicks))] rfl ?_
      refine g_aload_n C 0 0 o dX10_takeLetter_196 rfl rfl ?_
      refine g_iconst C (0 : Int32) dX10_takeLetter_197 rfl ?_
      refine g_put C 10 ix_10 0 _ rfl rfl 33 (by decide) wm_207 rfl tyX10 tyX10_ok nmX10 rfl rfl rfl (Nat.le_of_ble_eq_true rfl) dX10_takeLetter_198 [(o, .inr (10, [.ref o_text, .int v_length, .ref o_now, .ref o_trial, .ref o_diary, .int v_acts, .int v_next, .ref o_kept, .ref o_isKept, .ref o_knownPlace, .ref o_knownLetter, .int v_known, .long v_seed, .int v_wide, .int v_bits, .int v_parity, .int v_stops, .int v_idle, .int v_frames, .int v_failed, .int v_failedAt, .int v_margin, .ref o_letters, .ref o_starts, .int v_bestFrames, .ref o_bestLetters, .int v_alike, .int v_fitting, .ref o_deep, .ref o_worth, .int ((1 : Int32) - v_readLevel), .int (v_readMany + x3), .ref o_readTicks, .int (0 : Int32), .int v_ten])), (o_readTicks, .inl (cI, 360, .inl v_readTicks))] rfl ?_
      refine g_iconst C (1 : Int32) dX10_takeLetter_201 rfl ?_
      exact hret _ ((0 : Int32), ((1 : Int32) - v_readLevel), (v_readMany + x3), v_ten, v_readTicks) _ _ _ (Or.inr rfl) dX10_takeLetter_202 h rfl
  have H92 : ∀ (k0 : Int32) (k1 : Int32) (v_part : Int32) (v_readLevel : Int32) (v_readMany : Int32) (v_ten : Int32) (v_readTicks : (Nat → Int32)), wX10_takeLetter_92 fu x1 Q k0 k1 v_part v_readLevel v_readMany v_ten v_readTicks → G p l e rmX10_takeLetter s m args below meth c D A 5 0 0 Qm [(o, .inr (10, [.ref o_text, .int v_length, .ref o_now, .ref o_trial, .ref o_diary, .int v_acts, .int v_next, .ref o_kept, .ref o_isKept, .ref o_knownPlace, .ref o_knownLetter, .int v_known, .long v_seed, .int v_wide, .int v_bits, .int v_parity, .int v_stops, .int v_idle, .int v_frames, .int v_failed, .int v_failedAt, .int v_margin, .ref o_letters, .ref o_starts, .int v_bestFrames, .ref o_bestLetters, .int v_alike, .int v_fitting, .ref o_deep, .ref o_worth, .int v_readLevel, .int v_readMany, .ref o_readTicks, .int v_part, .int v_ten])), (o_readTicks, .inl (cI, 360, .inl v_readTicks))] [] 92 [.int k1, .int k0] := by
    intro k0 k1 v_part v_readLevel v_readMany v_ten v_readTicks h
    unfold wX10_takeLetter_92 at h
    refine g_iadd C dX10_takeLetter_92 ?_
    refine g_sipush C (360 : Int32) dX10_takeLetter_93 rfl ?_
    refine g_icmp_gt C 103 dX10_takeLetter_96 (by decide) (fun c16 => ?_) (fun c16 => ?_)
    · have h := wp_t c16 h
      refine g_iconst C (0 : Int32) dX10_takeLetter_103 rfl ?_
      exact hret _ (v_part, v_readLevel, v_readMany, v_ten, v_readTicks) _ _ _ (Or.inl rfl) dX10_takeLetter_104 h rfl
    have h := wp_f c16 h
    refine g_iconst C (1 : Int32) dX10_takeLetter_99 rfl ?_
    refine g_goto C 104 dX10_takeLetter_100 (by decide) ?_
    exact hret _ (v_part, v_readLevel, v_readMany, v_ten, v_readTicks) _ _ _ (Or.inr rfl) dX10_takeLetter_104 h rfl
  unfold wp_X10_takeLetter at h
  refine g_iload_n C 1 1 x1 dX10_takeLetter_0 rfl rfl ?_
  refine g_bipush C (48 : Int32) dX10_takeLetter_1 rfl ?_
  refine g_isub C dX10_takeLetter_3 ?_
  refine g_topi (fun y1 ey1 => ?_)
  have h := h y1 ey1
  refine g_istore_n C [(2, .int y1), (0, .ref o), (1, .int x1)] dX10_takeLetter_4 rfl (by decide) rfl ?_
  refine g_aload_n C 0 1 o dX10_takeLetter_5 rfl rfl ?_
  refine g_get C 10 ix_10 0 _ rfl rfl 33 (by decide) wm_207 rfl (.int v_part) rfl dX10_takeLetter_6 ?_
  by_cases c13 : v_part = (1 : Int32)
  · have h := wp_t c13 h
    refine g_tableIn C (1) (27) 36 (by rw [c13]; rfl) dX10_takeLetter_9 (by decide) rfl (by decide) ?_
    refine g_aload_n C 0 1 o dX10_takeLetter_36 rfl rfl ?_
    refine g_iload_n C 2 0 y1 dX10_takeLetter_37 rfl rfl ?_
    refine g_put C 10 ix_10 0 _ rfl rfl 30 (by decide) wm_212 rfl tyX10 tyX10_ok nmX10 rfl rfl rfl (Nat.le_of_ble_eq_true rfl) dX10_takeLetter_38 [(o, .inr (10, [.ref o_text, .int v_length, .ref o_now, .ref o_trial, .ref o_diary, .int v_acts, .int v_next, .ref o_kept, .ref o_isKept, .ref o_knownPlace, .ref o_knownLetter, .int v_known, .long v_seed, .int v_wide, .int v_bits, .int v_parity, .int v_stops, .int v_idle, .int v_frames, .int v_failed, .int v_failedAt, .int v_margin, .ref o_letters, .ref o_starts, .int v_bestFrames, .ref o_bestLetters, .int v_alike, .int v_fitting, .ref o_deep, .ref o_worth, .int y1, .int v_readMany, .ref o_readTicks, .int v_part, .int v_ten])), (o_readTicks, .inl (cI, 360, .inl v_readTicks))] rfl ?_
    refine g_aload_n C 0 1 o dX10_takeLetter_41 rfl rfl ?_
    refine g_iconst C (0 : Int32) dX10_takeLetter_42 rfl ?_
    refine g_put C 10 ix_10 0 _ rfl rfl 33 (by decide) wm_207 rfl tyX10 tyX10_ok nmX10 rfl rfl rfl (Nat.le_of_ble_eq_true rfl) dX10_takeLetter_43 [(o, .inr (10, [.ref o_text, .int v_length, .ref o_now, .ref o_trial, .ref o_diary, .int v_acts, .int v_next, .ref o_kept, .ref o_isKept, .ref o_knownPlace, .ref o_knownLetter, .int v_known, .long v_seed, .int v_wide, .int v_bits, .int v_parity, .int v_stops, .int v_idle, .int v_frames, .int v_failed, .int v_failedAt, .int v_margin, .ref o_letters, .ref o_starts, .int v_bestFrames, .ref o_bestLetters, .int v_alike, .int v_fitting, .ref o_deep, .ref o_worth, .int y1, .int v_readMany, .ref o_readTicks, .int (0 : Int32), .int v_ten])), (o_readTicks, .inl (cI, 360, .inl v_readTicks))] rfl ?_
    refine g_iload_n C 2 0 y1 dX10_takeLetter_46 rfl rfl ?_
    refine g_i2l C dX10_takeLetter_47 ?_
    refine g_lconst C (0 : Int64) dX10_takeLetter_48 rfl ?_
    refine g_lconst C (1 : Int64) dX10_takeLetter_49 rfl ?_
    refine g_callSi0 (As := [.long (Int32.toInt64 y1), .long (0 : Int64), .long (1 : Int64)]) (rest := []) C (c_X10_in l D cI cJ cZ cW (Int32.toInt64 y1) (0 : Int64) (1 : Int64) fu _ h) 3 gd_X10_53 rfl rfl rfl (by decide +kernel) ⟨Nat.le_of_ble_eq_true rfl, Nat.le_of_ble_eq_true rfl⟩ ⟨Nat.le_of_ble_eq_true rfl, Nat.le_of_ble_eq_true rfl⟩ rfl rfl (Nat.le_of_ble_eq_true rfl) [] rfl rfl dX10_takeLetter_50 (fun r2 h => ?_)
    obtain ⟨hzr2, h⟩ := h
    exact hret _ ((0 : Int32), y1, v_readMany, v_ten, v_readTicks) _ _ _ hzr2 dX10_takeLetter_53 h rfl
  have h := wp_f c13 h
  by_cases c14 : v_part = (2 : Int32)
  · have h := wp_t c14 h
    refine g_tableIn C (2) (45) 54 (by rw [c14]; rfl) dX10_takeLetter_9 (by decide) rfl (by decide) ?_
    refine g_aload_n C 0 1 o dX10_takeLetter_54 rfl rfl ?_
    refine g_iload_n C 2 0 y1 dX10_takeLetter_55 rfl rfl ?_
    refine g_put C 10 ix_10 0 _ rfl rfl 34 (by decide) wm_213 rfl tyX10 tyX10_ok nmX10 rfl rfl rfl (Nat.le_of_ble_eq_true rfl) dX10_takeLetter_56 [(o, .inr (10, [.ref o_text, .int v_length, .ref o_now, .ref o_trial, .ref o_diary, .int v_acts, .int v_next, .ref o_kept, .ref o_isKept, .ref o_knownPlace, .ref o_knownLetter, .int v_known, .long v_seed, .int v_wide, .int v_bits, .int v_parity, .int v_stops, .int v_idle, .int v_frames, .int v_failed, .int v_failedAt, .int v_margin, .ref o_letters, .ref o_starts, .int v_bestFrames, .ref o_bestLetters, .int v_alike, .int v_fitting, .ref o_deep, .ref o_worth, .int v_readLevel, .int v_readMany, .ref o_readTicks, .int v_part, .int y1])), (o_readTicks, .inl (cI, 360, .inl v_readTicks))] rfl ?_
    refine g_aload_n C 0 1 o dX10_takeLetter_59 rfl rfl ?_
    refine g_iconst C (3 : Int32) dX10_takeLetter_60 rfl ?_
    refine g_put C 10 ix_10 0 _ rfl rfl 33 (by decide) wm_207 rfl tyX10 tyX10_ok nmX10 rfl rfl rfl (Nat.le_of_ble_eq_true rfl) dX10_takeLetter_61 [(o, .inr (10, [.ref o_text, .int v_length, .ref o_now, .ref o_trial, .ref o_diary, .int v_acts, .int v_next, .ref o_kept, .ref o_isKept, .ref o_knownPlace, .ref o_knownLetter, .int v_known, .long v_seed, .int v_wide, .int v_bits, .int v_parity, .int v_stops, .int v_idle, .int v_frames, .int v_failed, .int v_failedAt, .int v_margin, .ref o_letters, .ref o_starts, .int v_bestFrames, .ref o_bestLetters, .int v_alike, .int v_fitting, .ref o_deep, .ref o_worth, .int v_readLevel, .int v_readMany, .ref o_readTicks, .int (3 : Int32), .int y1])), (o_readTicks, .inl (cI, 360, .inl v_readTicks))] rfl ?_
    refine g_iload_n C 2 0 y1 dX10_takeLetter_64 rfl rfl ?_
    refine g_i2l C dX10_takeLetter_65 ?_
    refine g_lconst C (0 : Int64) dX10_takeLetter_66 rfl ?_
    refine g_ldc2 C (9 : Int64) wm_214 dX10_takeLetter_67 ?_
    refine g_callSi0 (As := [.long (Int32.toInt64 y1), .long (0 : Int64), .long (9 : Int64)]) (rest := []) C (c_X10_in l D cI cJ cZ cW (Int32.toInt64 y1) (0 : Int64) (9 : Int64) fu _ h) 3 gd_X10_53 rfl rfl rfl (by decide +kernel) ⟨Nat.le_of_ble_eq_true rfl, Nat.le_of_ble_eq_true rfl⟩ ⟨Nat.le_of_ble_eq_true rfl, Nat.le_of_ble_eq_true rfl⟩ rfl rfl (Nat.le_of_ble_eq_true rfl) [] rfl rfl dX10_takeLetter_70 (fun r3 h => ?_)
    obtain ⟨hzr3, h⟩ := h
    refine g_if_eq C 103 dX10_takeLetter_73 (by decide) (fun c4 => ?_) (fun c4 => ?_)
    · have h := wp_t c4 h
      refine g_iconst C (0 : Int32) dX10_takeLetter_103 rfl ?_
      exact hret _ ((3 : Int32), v_readLevel, v_readMany, y1, v_readTicks) _ _ _ (Or.inl rfl) dX10_takeLetter_104 h rfl
    have h := wp_f c4 h
    refine g_aload_n C 0 1 o dX10_takeLetter_76 rfl rfl ?_
    refine g_get C 10 ix_10 0 _ rfl rfl 31 (by decide) wm_206 rfl (.int v_readMany) rfl dX10_takeLetter_77 ?_
    refine g_iload_n C 2 0 y1 dX10_takeLetter_80 rfl rfl ?_
    refine g_if_ne C 88 dX10_takeLetter_81 (by decide) (fun c5 => ?_) (fun c5 => ?_)
    rotate_left
    · have h := wp_t c5 h
      refine g_iconst C (1 : Int32) dX10_takeLetter_84 rfl ?_
      refine g_goto C 92 dX10_takeLetter_85 (by decide) ?_
      refine g_lv [] rfl ?_
      exact H92  v_readMany (1 : Int32) (3 : Int32) v_readLevel v_readMany y1 v_readTicks h
    have h := wp_f c5 h
    refine g_bipush C (10 : Int32) dX10_takeLetter_88 rfl ?_
    refine g_iload_n C 2 0 y1 dX10_takeLetter_90 rfl rfl ?_
    refine g_imul C dX10_takeLetter_91 ?_
    refine g_lv [] rfl ?_
    exact H92  v_readMany ((10 : Int32) * y1) (3 : Int32) v_readLevel v_readMany y1 v_readTicks h
  have h := wp_f c14 h
  by_cases c15 : v_part = (3 : Int32)
  · have h := wp_t c15 h
    refine g_tableIn C (3) (96) 105 (by rw [c15]; rfl) dX10_takeLetter_9 (by decide) rfl (by decide) ?_
    refine g_bipush C (10 : Int32) dX10_takeLetter_105 rfl ?_
    refine g_aload_n C 0 1 o dX10_takeLetter_107 rfl rfl ?_
    refine g_get C 10 ix_10 0 _ rfl rfl 34 (by decide) wm_213 rfl (.int v_ten) rfl dX10_takeLetter_108 ?_
    refine g_imul C dX10_takeLetter_111 ?_
    refine g_iload_n C 2 0 y1 dX10_takeLetter_112 rfl rfl ?_
    refine g_iadd C dX10_takeLetter_113 ?_
    refine g_topi (fun y6 ey6 => ?_)
    have h := h y6 ey6
    refine g_istore_n C [(3, .int y6), (2, .int y1), (0, .ref o), (1, .int x1)] dX10_takeLetter_114 rfl (by decide) rfl ?_
    refine g_iload_n C 2 1 y1 dX10_takeLetter_115 rfl rfl ?_
    refine g_i2l C dX10_takeLetter_116 ?_
    refine g_lconst C (0 : Int64) dX10_takeLetter_117 rfl ?_
    refine g_ldc2 C (9 : Int64) wm_214 dX10_takeLetter_118 ?_
    refine g_callSi0 (As := [.long (Int32.toInt64 y1), .long (0 : Int64), .long (9 : Int64)]) (rest := []) C (c_X10_in l D cI cJ cZ cW (Int32.toInt64 y1) (0 : Int64) (9 : Int64) fu _ h) 3 gd_X10_53 rfl rfl rfl (by decide +kernel) ⟨Nat.le_of_ble_eq_true rfl, Nat.le_of_ble_eq_true rfl⟩ ⟨Nat.le_of_ble_eq_true rfl, Nat.le_of_ble_eq_true rfl⟩ rfl rfl (Nat.le_of_ble_eq_true rfl) [] rfl rfl dX10_takeLetter_121 (fun r7 h => ?_)
    obtain ⟨hzr7, h⟩ := h
    refine g_if_eq C 143 dX10_takeLetter_124 (by decide) (fun c8 => ?_) (fun c8 => ?_)
    · have h := wp_t c8 h
      refine g_iconst C (0 : Int32) dX10_takeLetter_143 rfl ?_
      exact hret _ (v_part, v_readLevel, v_readMany, v_ten, v_readTicks) _ _ _ (Or.inl rfl) dX10_takeLetter_144 h rfl
    have h := wp_f c8 h
    refine g_iload_n C 3 0 y6 dX10_takeLetter_127 rfl rfl ?_
    refine g_if_eq C 143 dX10_takeLetter_128 (by decide) (fun c9 => ?_) (fun c9 => ?_)
    · have h := wp_t c9 h
      refine g_iconst C (0 : Int32) dX10_takeLetter_143 rfl ?_
      exact hret _ (v_part, v_readLevel, v_readMany, v_ten, v_readTicks) _ _ _ (Or.inl rfl) dX10_takeLetter_144 h rfl
    have h := wp_f c9 h
    refine g_aload_n C 0 2 o dX10_takeLetter_131 rfl rfl ?_
    refine g_get C 10 ix_10 0 _ rfl rfl 31 (by decide) wm_206 rfl (.int v_readMany) rfl dX10_takeLetter_132 ?_
    refine g_iload_n C 3 0 y6 dX10_takeLetter_135 rfl rfl ?_
    refine g_iadd C dX10_takeLetter_136 ?_
    refine g_sipush C (360 : Int32) dX10_takeLetter_137 rfl ?_
    refine g_icmp_le C 145 dX10_takeLetter_140 (by decide) (fun c10 => ?_) (fun c10 => ?_)
    rotate_left
    · have h := wp_f c10 h
      refine g_iconst C (0 : Int32) dX10_takeLetter_143 rfl ?_
      exact hret _ (v_part, v_readLevel, v_readMany, v_ten, v_readTicks) _ _ _ (Or.inl rfl) dX10_takeLetter_144 h rfl
    have h := wp_t c10 h
    refine g_iconst C (0 : Int32) dX10_takeLetter_145 rfl ?_
    refine g_istore C [(4, .int (0 : Int32)), (3, .int y6), (2, .int y1), (0, .ref o), (1, .int x1)] dX10_takeLetter_146 (by decide) rfl ?_
    refine g_lv [3, 1, 0] rfl ?_
    exact H148 fu  y6 (0 : Int32) v_part v_readLevel v_readMany v_ten v_readTicks h
  have h := wp_f c15 h
  refine g_tableOut C 203 dX10_takeLetter_9 (sw_out (1) (3) (by decide) (fun v h1 h2 => ?_)) (by decide) ?_
  · rcases (show v = 1 ∨ v = 2 ∨ v = 3 by omega) with rfl | rfl | rfl
    · exact fun hq => c13 (Int32.toInt_inj.mp (hq.trans rfl))
    · exact fun hq => c14 (Int32.toInt_inj.mp (hq.trans rfl))
    · exact fun hq => c15 (Int32.toInt_inj.mp (hq.trans rfl))
  refine g_aload_n C 0 1 o dX10_takeLetter_203 rfl rfl ?_
  refine g_iconst C (2 : Int32) dX10_takeLetter_204 rfl ?_
  refine g_put C 10 ix_10 0 _ rfl rfl 33 (by decide) wm_207 rfl tyX10 tyX10_ok nmX10 rfl rfl rfl (Nat.le_of_ble_eq_true rfl) dX10_takeLetter_205 [(o, .inr (10, [.ref o_text, .int v_length, .ref o_now, .ref o_trial, .ref o_diary, .int v_acts, .int v_next, .ref o_kept, .ref o_isKept, .ref o_knownPlace, .ref o_knownLetter, .int v_known, .long v_seed, .int v_wide, .int v_bits, .int v_parity, .int v_stops, .int v_idle, .int v_frames, .int v_failed, .int v_failedAt, .int v_margin, .ref o_letters, .ref o_starts, .int v_bestFrames, .ref o_bestLetters, .int v_alike, .int v_fitting, .ref o_deep, .ref o_worth, .int v_readLevel, .int v_readMany, .ref o_readTicks, .int (2 : Int32), .int v_ten])), (o_readTicks, .inl (cI, 360, .inl v_readTicks))] rfl ?_
  refine g_iload_n C 1 2 x1 dX10_takeLetter_208 rfl rfl ?_
  refine g_bipush C (114 : Int32) dX10_takeLetter_209 rfl ?_
  refine g_icmp_ne C 228 dX10_takeLetter_211 (by decide) (fun c11 => ?_) (fun c11 => ?_)
  · have h := wp_f c11 h
    refine g_iconst C (0 : Int32) dX10_takeLetter_228 rfl ?_
    exact hret _ ((2 : Int32), v_readLevel, v_readMany, v_ten, v_readTicks) _ _ _ (Or.inl rfl) dX10_takeLetter_229 h rfl
  have h := wp_t c11 h
  refine g_aload_n C 0 1 o dX10_takeLetter_214 rfl rfl ?_
  refine g_get C 10 ix_10 0 _ rfl rfl 31 (by decide) wm_206 rfl (.int v_readMany) rfl dX10_takeLetter_215 ?_
  refine g_sipush C (360 : Int32) dX10_takeLetter_218 rfl ?_
  refine g_icmp_ge C 228 dX10_takeLetter_221 (by decide) (fun c12 => ?_) (fun c12 => ?_)
  · have h := wp_t c12 h
    refine g_iconst C (0 : Int32) dX10_takeLetter_228 rfl ?_
    exact hret _ ((2 : Int32), v_readLevel, v_readMany, v_ten, v_readTicks) _ _ _ (Or.inl rfl) dX10_takeLetter_229 h rfl
  have h := wp_f c12 h
  refine g_iconst C (1 : Int32) dX10_takeLetter_224 rfl ?_
  refine g_goto C 229 dX10_takeLetter_225 (by decide) ?_
  exact hret _ ((2 : Int32), v_readLevel, v_readMany, v_ten, v_readTicks) _ _ _ (Or.inr rfl) dX10_takeLetter_229 h rfl
abbrev rmX10_readText : Room := { frames := 2, cells := 0, slots := 0, locals := 49 }
def wX10_readText_32 (fu : Nat) (v_length : Int32) (v_text : (Nat → Int32)) (Q : Int32 → Int32 → Int32 → Int32 → Int32 → (Nat → Int32) → Prop) : Nat → Int32 → Int32 → Int32 → Int32 → Int32 → (Nat → Int32) → Prop
  | 0, _, _, _, _, _, _ => False
  | n0 + 1, x1, v_part, v_readLevel, v_readMany, v_ten, v_readTicks => (if v_length ≤ x1 then (if v_part = 0 then Q (-9 : Int32) v_part v_readLevel v_readMany v_ten v_readTicks else Q v_length v_part v_readLevel v_readMany v_ten v_readTicks) else (vp_in x1 99 ∧ wp_X10_takeLetter fu (v_text (ix x1)) v_part v_readLevel v_readMany v_ten v_readTicks (fun (r11 : Int32) (z6 : Int32) (z7 : Int32) (z8 : Int32) (z9 : Int32) (z10 : (Nat → Int32)) => (if r11 = 0 then Q x1 z6 z7 z8 z9 z10 else (wX10_readText_32 fu v_length v_text Q n0) (x1 + (1 : Int32)) z6 z7 z8 z9 z10))))
def wp_X10_readText (fu : Nat) (v_length : Int32) (v_text : (Nat → Int32)) (v_part : Int32) (v_readLevel : Int32) (v_readMany : Int32) (v_ten : Int32) (v_readTicks : (Nat → Int32)) (Q : Int32 → Int32 → Int32 → Int32 → Int32 → (Nat → Int32) → Prop) : Prop := (if v_length = 0 then Q (0 : Int32) (1 : Int32) v_readLevel (0 : Int32) v_ten v_readTicks else (if (v_text (ix (0 : Int32))) = (83 : Int32) then wX10_readText_32 fu v_length v_text Q fu (1 : Int32) (1 : Int32) v_readLevel (0 : Int32) v_ten v_readTicks else Q (0 : Int32) (1 : Int32) v_readLevel (0 : Int32) v_ten v_readTicks))
set_option maxHeartbeats 4000000 in
set_option maxRecDepth 100000 in
theorem c_X10_readText (l : Launch) (D : va_G) (cI cJ cZ cW : ClassId) (o o_text o_now o_trial o_diary o_kept o_isKept o_knownPlace o_knownLetter o_letters o_starts o_bestLetters o_deep o_worth o_readTicks : Nat) (v_length : Int32) (v_acts : Int32) (v_next : Int32) (v_known : Int32) (v_seed : Int64) (v_wide : Int32) (v_bits : Int32) (v_parity : Int32) (v_stops : Int32) (v_idle : Int32) (v_frames : Int32) (v_failed : Int32) (v_failedAt : Int32) (v_margin : Int32) (v_bestFrames : Int32) (v_alike : Int32) (v_fitting : Int32) (v_readLevel : Int32) (v_readMany : Int32) (v_part : Int32) (v_ten : Int32) (v_readTicks : (Nat → Int32)) (v_text : (Nat → Int32)) (fu : Nat) (Q : Int32 → Int32 → Int32 → Int32 → Int32 → (Nat → Int32) → Prop) (h : wp_X10_readText fu v_length v_text v_part v_readLevel v_readMany v_ten v_readTicks Q) : CtI l yX10_readText wkX10_readText rmX10_readText D (tys4 cI cJ cZ cW) [.ref o] [(o, .inr (10, [.ref o_text, .int v_length, .ref o_now, .ref o_trial, .ref o_diary, .int v_acts, .int v_next, .ref o_kept, .ref o_isKept, .ref o_knownPlace, .ref o_knownLetter, .int v_known, .long v_seed, .int v_wide, .int v_bits, .int v_parity, .int v_stops, .int v_idle, .int v_frames, .int v_failed, .int v_failedAt, .int v_margin, .ref o_letters, .ref o_starts, .int v_bestFrames, .ref o_bestLetters, .int v_alike, .int v_fitting, .ref o_deep, .ref o_worth, .int v_readLevel, .int v_readMany, .ref o_readTicks, .int v_part, .int v_ten])), (o_readTicks, .inl (cI, 360, .inl v_readTicks)), (o_text, .inl (cI, 99, .inl v_text))] (fun (r : Int32) (u : Int32 × Int32 × Int32 × Int32 × (Nat → Int32)) => Q r u.1 u.2.1 u.2.2.1 u.2.2.2.1 u.2.2.2.2) (fun (u : Int32 × Int32 × Int32 × Int32 × (Nat → Int32)) => [(o, .inr (10, [.ref o_text, .int v_length, .ref o_now, .ref o_trial, .ref o_diary, .int v_acts, .int v_next, .ref o_kept, .ref o_isKept, .ref o_knownPlace, .ref o_knownLetter, .int v_known, .long v_seed, .int v_wide, .int v_bits, .int v_parity, .int v_stops, .int v_idle, .int v_frames, .int v_failed, .int v_failedAt, .int v_margin, .ref o_letters, .ref o_starts, .int v_bestFrames, .ref o_bestLetters, .int v_alike, .int v_fitting, .ref o_deep, .ref o_worth, .int u.2.1, .int u.2.2.1, .ref o_readTicks, .int u.1, .int u.2.2.2.1])), (o_readTicks, .inl (cI, 360, .inl u.2.2.2.2)), (o_text, .inl (cI, 99, .inl v_text))]) := by
  refine CtI.of (S := Int32 × Int32 × Int32 × Int32 × (Nat → Int32)) (y := yX10_readText) (Tc := wkX10_readText) (rm := rmX10_readText) (D := D) (tys := tys4 cI cJ cZ cW) (av := [.ref o]) (wc := [(o, .inr (10, [.ref o_text, .int v_length, .ref o_now, .ref o_trial, .ref o_diary, .int v_acts, .int v_next, .ref o_kept, .ref o_isKept, .ref o_knownPlace, .ref o_knownLetter, .int v_known, .long v_seed, .int v_wide, .int v_bits, .int v_parity, .int v_stops, .int v_idle, .int v_frames, .int v_failed, .int v_failedAt, .int v_margin, .ref o_letters, .ref o_starts, .int v_bestFrames, .ref o_bestLetters, .int v_alike, .int v_fitting, .ref o_deep, .ref o_worth, .int v_readLevel, .int v_readMany, .ref o_readTicks, .int v_part, .int v_ten])), (o_readTicks, .inl (cI, 360, .inl v_readTicks)), (o_text, .inl (cI, 99, .inl v_text))]) (post := (fun (r : Int32) (u : Int32 × Int32 × Int32 × Int32 × (Nat → Int32)) => Q r u.1 u.2.1 u.2.2.1 u.2.2.2.1 u.2.2.2.2)) (w1 := (fun (u : Int32 × Int32 × Int32 × Int32 × (Nat → Int32)) => [(o, .inr (10, [.ref o_text, .int v_length, .ref o_now, .ref o_trial, .ref o_diary, .int v_acts, .int v_next, .ref o_kept, .ref o_isKept, .ref o_knownPlace, .ref o_knownLetter, .int v_known, .long v_seed, .int v_wide, .int v_bits, .int v_parity, .int v_stops, .int v_idle, .int v_frames, .int v_failed, .int v_failedAt, .int v_margin, .ref o_letters, .ref o_starts, .int v_bestFrames, .ref o_bestLetters, .int v_alike, .int v_fitting, .ref o_deep, .ref o_worth, .int u.2.1, .int u.2.2.1, .ref o_readTicks, .int u.1, .int u.2.2.2.1])), (o_readTicks, .inl (cI, 360, .inl u.2.2.2.2)), (o_text, .inl (cI, 99, .inl v_text))])) (cc := cX10_readText) (maxL := 2) RX10 rfl (by decide +kernel) rfl rfl [(0, .ref o)] rfl ?_
  intro p e s m args below meth c A Qm C hret
  have H32 : ∀ (n32 : Nat) (x1 : Int32) (v_part : Int32) (v_readLevel : Int32) (v_readMany : Int32) (v_ten : Int32) (v_readTicks : (Nat → Int32)), wX10_readText_32 fu v_length v_text Q n32 x1 v_part v_readLevel v_readMany v_ten v_readTicks → G p l e rmX10_readText s m args below meth c D A 2 0 0 Qm [(o, .inr (10, [.ref o_text, .int v_length, .ref o_now, .ref o_trial, .ref o_diary, .int v_acts, .int v_next, .ref o_kept, .ref o_isKept, .ref o_knownPlace, .ref o_knownLetter, .int v_known, .long v_seed, .int v_wide, .int v_bits, .int v_parity, .int v_stops, .int v_idle, .int v_frames, .int v_failed, .int v_failedAt, .int v_margin, .ref o_letters, .ref o_starts, .int v_bestFrames, .ref o_bestLetters, .int v_alike, .int v_fitting, .ref o_deep, .ref o_worth, .int v_readLevel, .int v_readMany, .ref o_readTicks, .int v_part, .int v_ten])), (o_readTicks, .inl (cI, 360, .inl v_readTicks)), (o_text, .inl (cI, 99, .inl v_text))] [(0, .ref o), (1, .int x1)] 32 [] := by
    intro n32
    induction n32 with
    | zero => intro x1 v_part v_readLevel v_readMany v_ten v_readTicks h; exact False.elim h
    | succ n32 ih32 =>
      intro x1 v_part v_readLevel v_readMany v_ten v_readTicks h
      unfold wX10_readText_32 at h
      refine g_iload_n C 1 1 x1 dX10_readText_32 rfl rfl ?_
      refine g_aload_n C 0 0 o dX10_readText_33 rfl rfl ?_
      refine g_get C 10 ix_10 0 _ rfl rfl 1 (by decide) wm_162 rfl (.int v_length) rfl dX10_readText_34 ?_
      refine g_icmp_ge C 61 dX10_readText_37 (by decide) (fun c3 => ?_) (fun c3 => ?_)
      · have h := wp_t c3 h
        refine g_aload_n C 0 0 o dX10_readText_61 rfl rfl ?_
        refine g_get C 10 ix_10 0 _ rfl rfl 33 (by decide) wm_207 rfl (.int v_part) rfl dX10_readText_62 ?_
        refine g_if_ne C 73 dX10_readText_65 (by decide) (fun c4 => ?_) (fun c4 => ?_)
        · have h := wp_f c4 h
          refine g_aload_n C 0 0 o dX10_readText_73 rfl rfl ?_
          refine g_get C 10 ix_10 0 _ rfl rfl 1 (by decide) wm_162 rfl (.int v_length) rfl dX10_readText_74 ?_
          exact hret _ (v_part, v_readLevel, v_readMany, v_ten, v_readTicks) _ _ _ dX10_readText_77 h rfl
        have h := wp_t c4 h
        refine g_bipush C (-9 : Int32) dX10_readText_68 rfl ?_
        refine g_goto C 77 dX10_readText_70 (by decide) ?_
        exact hret _ (v_part, v_readLevel, v_readMany, v_ten, v_readTicks) _ _ _ dX10_readText_77 h rfl
      have h := wp_f c3 h
      refine g_aload_n C 0 0 o dX10_readText_40 rfl rfl ?_
      refine g_aload_n C 0 0 o dX10_readText_41 rfl rfl ?_
      refine g_get C 10 ix_10 0 _ rfl rfl 0 (by decide) wm_127 rfl (.ref o_text) rfl dX10_readText_42 ?_
      refine g_iload_n C 1 1 x1 dX10_readText_45 rfl rfl ?_
      obtain ⟨hi5, h⟩ := h
      refine g_iald C 2 0 cI 99 v_text rfl rfl hi5 dX10_readText_46 ?_
      refine g_callVi (As := [.int (v_text (ix x1))]) (rest := []) C (c_X10_takeLetter l D cI cJ cZ cW o o_text o_now o_trial o_diary o_kept o_isKept o_knownPlace o_knownLetter o_letters o_starts o_bestLetters o_deep o_worth o_readTicks v_length v_acts v_next v_known v_seed v_wide v_bits v_parity v_stops v_idle v_frames v_failed v_failedAt v_margin v_bestFrames v_alike v_fitting v_readLevel v_readMany v_part v_ten v_readTicks (v_text (ix x1)) fu _ h) 1 gd_X10_77 rfl rfl rfl (by decide +kernel) ⟨Nat.le_of_ble_eq_true rfl, Nat.le_of_ble_eq_true rfl⟩ ⟨Nat.le_of_ble_eq_true rfl, Nat.le_of_ble_eq_true rfl⟩ 10 0 rfl rfl rfl rfl (Nat.le_of_ble_eq_true rfl) [0, 1] [some 0, some 1, none] rfl rfl rfl dX10_readText_47 (fun r11 u h => ?_)
      obtain ⟨z6, z7, z8, z9, z10⟩ := u
      obtain ⟨hzr11, h⟩ := h
      refine ⟨[(o, .inr (10, [.ref o_text, .int v_length, .ref o_now, .ref o_trial, .ref o_diary, .int v_acts, .int v_next, .ref o_kept, .ref o_isKept, .ref o_knownPlace, .ref o_knownLetter, .int v_known, .long v_seed, .int v_wide, .int v_bits, .int v_parity, .int v_stops, .int v_idle, .int v_frames, .int v_failed, .int v_failedAt, .int v_margin, .ref o_letters, .ref o_starts, .int v_bestFrames, .ref o_bestLetters, .int v_alike, .int v_fitting, .ref o_deep, .ref o_worth, .int z7, .int z8, .ref o_readTicks, .int z6, .int z9])), (o_readTicks, .inl (cI, 360, .inl z10)), (o_text, .inl (cI, 99, .inl v_text))], rfl, rfl, rfl, ?_⟩
      refine g_if_ne C 55 dX10_readText_50 (by decide) (fun c12 => ?_) (fun c12 => ?_)
      rotate_left
      · have h := wp_t c12 h
        refine g_iload_n C 1 1 x1 dX10_readText_53 rfl rfl ?_
        exact hret _ (z6, z7, z8, z9, z10) _ _ _ dX10_readText_54 h rfl
      have h := wp_f c12 h
      refine g_iinc C 1 x1 (x1 + (1 : Int32)) [(1, .int (x1 + (1 : Int32))), (0, .ref o)] dX10_readText_55 rfl rfl (by decide) rfl ?_
      refine g_goto C 32 dX10_readText_58 (by decide) ?_
      refine g_lv [1, 0] rfl ?_
      exact ih32  (x1 + (1 : Int32)) z6 z7 z8 z9 z10 h
  unfold wp_X10_readText at h
  refine g_aload_n C 0 0 o dX10_readText_0 rfl rfl ?_
  refine g_iconst C (0 : Int32) dX10_readText_1 rfl ?_
  refine g_put C 10 ix_10 0 _ rfl rfl 31 (by decide) wm_206 rfl tyX10 tyX10_ok nmX10 rfl rfl rfl (Nat.le_of_ble_eq_true rfl) dX10_readText_2 [(o, .inr (10, [.ref o_text, .int v_length, .ref o_now, .ref o_trial, .ref o_diary, .int v_acts, .int v_next, .ref o_kept, .ref o_isKept, .ref o_knownPlace, .ref o_knownLetter, .int v_known, .long v_seed, .int v_wide, .int v_bits, .int v_parity, .int v_stops, .int v_idle, .int v_frames, .int v_failed, .int v_failedAt, .int v_margin, .ref o_letters, .ref o_starts, .int v_bestFrames, .ref o_bestLetters, .int v_alike, .int v_fitting, .ref o_deep, .ref o_worth, .int v_readLevel, .int (0 : Int32), .ref o_readTicks, .int v_part, .int v_ten])), (o_readTicks, .inl (cI, 360, .inl v_readTicks)), (o_text, .inl (cI, 99, .inl v_text))] rfl ?_
  refine g_aload_n C 0 0 o dX10_readText_5 rfl rfl ?_
  refine g_iconst C (1 : Int32) dX10_readText_6 rfl ?_
  refine g_put C 10 ix_10 0 _ rfl rfl 33 (by decide) wm_207 rfl tyX10 tyX10_ok nmX10 rfl rfl rfl (Nat.le_of_ble_eq_true rfl) dX10_readText_7 [(o, .inr (10, [.ref o_text, .int v_length, .ref o_now, .ref o_trial, .ref o_diary, .int v_acts, .int v_next, .ref o_kept, .ref o_isKept, .ref o_knownPlace, .ref o_knownLetter, .int v_known, .long v_seed, .int v_wide, .int v_bits, .int v_parity, .int v_stops, .int v_idle, .int v_frames, .int v_failed, .int v_failedAt, .int v_margin, .ref o_letters, .ref o_starts, .int v_bestFrames, .ref o_bestLetters, .int v_alike, .int v_fitting, .ref o_deep, .ref o_worth, .int v_readLevel, .int (0 : Int32), .ref o_readTicks, .int (1 : Int32), .int v_ten])), (o_readTicks, .inl (cI, 360, .inl v_readTicks)), (o_text, .inl (cI, 99, .inl v_text))] rfl ?_
  refine g_aload_n C 0 0 o dX10_readText_10 rfl rfl ?_
  refine g_get C 10 ix_10 0 _ rfl rfl 1 (by decide) wm_162 rfl (.int v_length) rfl dX10_readText_11 ?_
  refine g_if_eq C 28 dX10_readText_14 (by decide) (fun c1 => ?_) (fun c1 => ?_)
  · have h := wp_t c1 h
    refine g_iconst C (0 : Int32) dX10_readText_28 rfl ?_
    exact hret _ ((1 : Int32), v_readLevel, (0 : Int32), v_ten, v_readTicks) _ _ _ dX10_readText_29 h rfl
  have h := wp_f c1 h
  refine g_aload_n C 0 0 o dX10_readText_17 rfl rfl ?_
  refine g_get C 10 ix_10 0 _ rfl rfl 0 (by decide) wm_127 rfl (.ref o_text) rfl dX10_readText_18 ?_
  refine g_iconst C (0 : Int32) dX10_readText_21 rfl ?_
  refine g_iald C 2 0 cI 99 v_text rfl rfl (vp_in_dec rfl) dX10_readText_22 ?_
  refine g_bipush C (83 : Int32) dX10_readText_23 rfl ?_
  refine g_icmp_eq C 30 dX10_readText_25 (by decide) (fun c2 => ?_) (fun c2 => ?_)
  rotate_left
  · have h := wp_f c2 h
    refine g_iconst C (0 : Int32) dX10_readText_28 rfl ?_
    exact hret _ ((1 : Int32), v_readLevel, (0 : Int32), v_ten, v_readTicks) _ _ _ dX10_readText_29 h rfl
  have h := wp_t c2 h
  refine g_iconst C (1 : Int32) dX10_readText_30 rfl ?_
  refine g_istore_n C [(1, .int (1 : Int32)), (0, .ref o)] dX10_readText_31 rfl (by decide) rfl ?_
  refine g_lv [1, 0] rfl ?_
  exact H32 fu  (1 : Int32) (1 : Int32) v_readLevel (0 : Int32) v_ten v_readTicks h
abbrev rmX10_fault : Room := { frames := 3, cells := 0, slots := 0, locals := 70 }
def wp_X10_fault (fu : Nat) (v_length : Int32) (v_text : (Nat → Int32)) (v_part : Int32) (v_readLevel : Int32) (v_readMany : Int32) (v_ten : Int32) (v_readTicks : (Nat → Int32)) (Q : Int32 → Int32 → Int32 → Int32 → Int32 → (Nat → Int32) → Prop) : Prop := wp_X10_readText fu v_length v_text v_part v_readLevel v_readMany v_ten v_readTicks (fun (r6 : Int32) (z1 : Int32) (z2 : Int32) (z3 : Int32) (z4 : Int32) (z5 : (Nat → Int32)) => Q r6 z1 z2 z3 z4 z5)
set_option maxHeartbeats 4000000 in
set_option maxRecDepth 100000 in
theorem c_X10_fault (l : Launch) (D : va_G) (cI cJ cZ cW : ClassId) (o o_text o_now o_trial o_diary o_kept o_isKept o_knownPlace o_knownLetter o_letters o_starts o_bestLetters o_deep o_worth o_readTicks : Nat) (v_length : Int32) (v_acts : Int32) (v_next : Int32) (v_known : Int32) (v_seed : Int64) (v_wide : Int32) (v_bits : Int32) (v_parity : Int32) (v_stops : Int32) (v_idle : Int32) (v_frames : Int32) (v_failed : Int32) (v_failedAt : Int32) (v_margin : Int32) (v_bestFrames : Int32) (v_alike : Int32) (v_fitting : Int32) (v_readLevel : Int32) (v_readMany : Int32) (v_part : Int32) (v_ten : Int32) (v_readTicks : (Nat → Int32)) (v_text : (Nat → Int32)) (fu : Nat) (Q : Int32 → Int32 → Int32 → Int32 → Int32 → (Nat → Int32) → Prop) (h : wp_X10_fault fu v_length v_text v_part v_readLevel v_readMany v_ten v_readTicks Q) : CtI l yX10_fault wkX10_fault rmX10_fault D (tys4 cI cJ cZ cW) [.ref o] [(o, .inr (10, [.ref o_text, .int v_length, .ref o_now, .ref o_trial, .ref o_diary, .int v_acts, .int v_next, .ref o_kept, .ref o_isKept, .ref o_knownPlace, .ref o_knownLetter, .int v_known, .long v_seed, .int v_wide, .int v_bits, .int v_parity, .int v_stops, .int v_idle, .int v_frames, .int v_failed, .int v_failedAt, .int v_margin, .ref o_letters, .ref o_starts, .int v_bestFrames, .ref o_bestLetters, .int v_alike, .int v_fitting, .ref o_deep, .ref o_worth, .int v_readLevel, .int v_readMany, .ref o_readTicks, .int v_part, .int v_ten])), (o_readTicks, .inl (cI, 360, .inl v_readTicks)), (o_text, .inl (cI, 99, .inl v_text))] (fun (r : Int32) (u : Int32 × Int32 × Int32 × Int32 × (Nat → Int32)) => Q r u.1 u.2.1 u.2.2.1 u.2.2.2.1 u.2.2.2.2) (fun (u : Int32 × Int32 × Int32 × Int32 × (Nat → Int32)) => [(o, .inr (10, [.ref o_text, .int v_length, .ref o_now, .ref o_trial, .ref o_diary, .int v_acts, .int v_next, .ref o_kept, .ref o_isKept, .ref o_knownPlace, .ref o_knownLetter, .int v_known, .long v_seed, .int v_wide, .int v_bits, .int v_parity, .int v_stops, .int v_idle, .int v_frames, .int v_failed, .int v_failedAt, .int v_margin, .ref o_letters, .ref o_starts, .int v_bestFrames, .ref o_bestLetters, .int v_alike, .int v_fitting, .ref o_deep, .ref o_worth, .int u.2.1, .int u.2.2.1, .ref o_readTicks, .int u.1, .int u.2.2.2.1])), (o_readTicks, .inl (cI, 360, .inl u.2.2.2.2)), (o_text, .inl (cI, 99, .inl v_text))]) := by
  refine CtI.of (S := Int32 × Int32 × Int32 × Int32 × (Nat → Int32)) (y := yX10_fault) (Tc := wkX10_fault) (rm := rmX10_fault) (D := D) (tys := tys4 cI cJ cZ cW) (av := [.ref o]) (wc := [(o, .inr (10, [.ref o_text, .int v_length, .ref o_now, .ref o_trial, .ref o_diary, .int v_acts, .int v_next, .ref o_kept, .ref o_isKept, .ref o_knownPlace, .ref o_knownLetter, .int v_known, .long v_seed, .int v_wide, .int v_bits, .int v_parity, .int v_stops, .int v_idle, .int v_frames, .int v_failed, .int v_failedAt, .int v_margin, .ref o_letters, .ref o_starts, .int v_bestFrames, .ref o_bestLetters, .int v_alike, .int v_fitting, .ref o_deep, .ref o_worth, .int v_readLevel, .int v_readMany, .ref o_readTicks, .int v_part, .int v_ten])), (o_readTicks, .inl (cI, 360, .inl v_readTicks)), (o_text, .inl (cI, 99, .inl v_text))]) (post := (fun (r : Int32) (u : Int32 × Int32 × Int32 × Int32 × (Nat → Int32)) => Q r u.1 u.2.1 u.2.2.1 u.2.2.2.1 u.2.2.2.2)) (w1 := (fun (u : Int32 × Int32 × Int32 × Int32 × (Nat → Int32)) => [(o, .inr (10, [.ref o_text, .int v_length, .ref o_now, .ref o_trial, .ref o_diary, .int v_acts, .int v_next, .ref o_kept, .ref o_isKept, .ref o_knownPlace, .ref o_knownLetter, .int v_known, .long v_seed, .int v_wide, .int v_bits, .int v_parity, .int v_stops, .int v_idle, .int v_frames, .int v_failed, .int v_failedAt, .int v_margin, .ref o_letters, .ref o_starts, .int v_bestFrames, .ref o_bestLetters, .int v_alike, .int v_fitting, .ref o_deep, .ref o_worth, .int u.2.1, .int u.2.2.1, .ref o_readTicks, .int u.1, .int u.2.2.2.1])), (o_readTicks, .inl (cI, 360, .inl u.2.2.2.2)), (o_text, .inl (cI, 99, .inl v_text))])) (cc := cX10_fault) (maxL := 1) RX10 rfl (by decide +kernel) rfl rfl [(0, .ref o)] rfl ?_
  intro p e s m args below meth c A Qm C hret
  unfold wp_X10_fault at h
  refine g_aload_n C 0 0 o dX10_fault_0 rfl rfl ?_
  refine g_callVi (As := []) (rest := []) C (c_X10_readText l D cI cJ cZ cW o o_text o_now o_trial o_diary o_kept o_isKept o_knownPlace o_knownLetter o_letters o_starts o_bestLetters o_deep o_worth o_readTicks v_length v_acts v_next v_known v_seed v_wide v_bits v_parity v_stops v_idle v_frames v_failed v_failedAt v_margin v_bestFrames v_alike v_fitting v_readLevel v_readMany v_part v_ten v_readTicks v_text fu _ h) 0 gd_X10_81 rfl rfl rfl (by decide +kernel) ⟨Nat.le_of_ble_eq_true rfl, Nat.le_of_ble_eq_true rfl⟩ ⟨Nat.le_of_ble_eq_true rfl, Nat.le_of_ble_eq_true rfl⟩ 10 0 rfl rfl rfl rfl (Nat.le_of_ble_eq_true rfl) [0, 1, 2] [some 0, some 1, some 2] rfl rfl rfl dX10_fault_1 (fun r6 u h => ?_)
  obtain ⟨z1, z2, z3, z4, z5⟩ := u
  refine ⟨[(o, .inr (10, [.ref o_text, .int v_length, .ref o_now, .ref o_trial, .ref o_diary, .int v_acts, .int v_next, .ref o_kept, .ref o_isKept, .ref o_knownPlace, .ref o_knownLetter, .int v_known, .long v_seed, .int v_wide, .int v_bits, .int v_parity, .int v_stops, .int v_idle, .int v_frames, .int v_failed, .int v_failedAt, .int v_margin, .ref o_letters, .ref o_starts, .int v_bestFrames, .ref o_bestLetters, .int v_alike, .int v_fitting, .ref o_deep, .ref o_worth, .int z2, .int z3, .ref o_readTicks, .int z1, .int z4])), (o_readTicks, .inl (cI, 360, .inl z5)), (o_text, .inl (cI, 99, .inl v_text))], rfl, rfl, rfl, ?_⟩
  exact hret _ (z1, z2, z3, z4, z5) _ _ _ dX10_fault_4 h rfl
abbrev rmX10_take : Room := { frames := 3, cells := 0, slots := 0, locals := 70 }
def wX10_take_44 (fu : Nat) (v_length : Int32) (v_text : (Nat → Int32)) (Q : Int32 → Int32 → Int32 → Int32 → Int32 → Int32 → (Nat → Int32) → (Nat → Int32) → (Nat → Int32) → Prop) (K14 : Int32 → Int32 → Int32 → Int32 → Int32 → Int32 → (Nat → Int32) → (Nat → Int32) → (Nat → Int32) → Prop) (x1 : Int32) (k1 : Int32) (k2 : Int32) (v_acts : Int32) (v_part : Int32) (v_readLevel : Int32) (v_readMany : Int32) (v_ten : Int32) (v_isKept : (Nat → Int32)) (v_now : (Nat → Int32)) (v_readTicks : (Nat → Int32)) : Prop := (vp_in k1 361 ∧ K14 (x1 + (1 : Int32)) v_acts v_part v_readLevel v_readMany v_ten v_isKept (upd v_now (ix k1) k2) v_readTicks)
def wX10_take_14 (fu : Nat) (v_length : Int32) (v_text : (Nat → Int32)) (Q : Int32 → Int32 → Int32 → Int32 → Int32 → Int32 → (Nat → Int32) → (Nat → Int32) → (Nat → Int32) → Prop) : Nat → Int32 → Int32 → Int32 → Int32 → Int32 → Int32 → (Nat → Int32) → (Nat → Int32) → (Nat → Int32) → Prop
  | 0, _, _, _, _, _, _, _, _, _ => False
  | n0 + 1, x1, v_acts, v_part, v_readLevel, v_readMany, v_ten, v_isKept, v_now, v_readTicks => (if (360 : Int32) ≤ x1 then Q v_readMany (0 : Int32) v_part v_readLevel v_readMany v_ten (upd (upd v_isKept (ix (0 : Int32)) (0 : Int32)) (ix (1 : Int32)) (0 : Int32)) (upd v_now (ix (360 : Int32)) v_readMany) v_readTicks else (if v_readMany ≤ x1 then wX10_take_44 fu v_length v_text Q (wX10_take_14 fu v_length v_text Q n0) x1 x1 (0 : Int32) v_acts v_part v_readLevel v_readMany v_ten v_isKept v_now v_readTicks else (vp_in x1 360 ∧ wX10_take_44 fu v_length v_text Q (wX10_take_14 fu v_length v_text Q n0) x1 x1 (v_readTicks (ix x1)) v_acts v_part v_readLevel v_readMany v_ten v_isKept v_now v_readTicks)))
def wp_X10_take (fu : Nat) (v_length : Int32) (v_text : (Nat → Int32)) (v_acts : Int32) (v_part : Int32) (v_readLevel : Int32) (v_readMany : Int32) (v_ten : Int32) (v_isKept : (Nat → Int32)) (v_now : (Nat → Int32)) (v_readTicks : (Nat → Int32)) (Q : Int32 → Int32 → Int32 → Int32 → Int32 → Int32 → (Nat → Int32) → (Nat → Int32) → (Nat → Int32) → Prop) : Prop := wp_X10_readText fu v_length v_text v_part v_readLevel v_readMany v_ten v_readTicks (fun (r6 : Int32) (z1 : Int32) (z2 : Int32) (z3 : Int32) (z4 : Int32) (z5 : (Nat → Int32)) => (if r6 = (-9 : Int32) then wX10_take_14 fu v_length v_text Q fu (0 : Int32) v_acts z1 z2 z3 z4 v_isKept v_now z5 else Q (-3 : Int32) v_acts z1 z2 z3 z4 v_isKept v_now z5))
set_option maxHeartbeats 4000000 in
set_option maxRecDepth 100000 in
theorem c_X10_take (l : Launch) (D : va_G) (cI cJ cZ cW : ClassId) (o o_text o_now o_trial o_diary o_kept o_isKept o_knownPlace o_knownLetter o_letters o_starts o_bestLetters o_deep o_worth o_readTicks : Nat) (v_length : Int32) (v_acts : Int32) (v_next : Int32) (v_known : Int32) (v_seed : Int64) (v_wide : Int32) (v_bits : Int32) (v_parity : Int32) (v_stops : Int32) (v_idle : Int32) (v_frames : Int32) (v_failed : Int32) (v_failedAt : Int32) (v_margin : Int32) (v_bestFrames : Int32) (v_alike : Int32) (v_fitting : Int32) (v_readLevel : Int32) (v_readMany : Int32) (v_part : Int32) (v_ten : Int32) (v_isKept : (Nat → Int32)) (v_now : (Nat → Int32)) (v_readTicks : (Nat → Int32)) (v_text : (Nat → Int32)) (fu : Nat) (Q : Int32 → Int32 → Int32 → Int32 → Int32 → Int32 → (Nat → Int32) → (Nat → Int32) → (Nat → Int32) → Prop) (h : wp_X10_take fu v_length v_text v_acts v_part v_readLevel v_readMany v_ten v_isKept v_now v_readTicks Q) : CtI l yX10_take wkX10_take rmX10_take D (tys4 cI cJ cZ cW) [.ref o] [(o, .inr (10, [.ref o_text, .int v_length, .ref o_now, .ref o_trial, .ref o_diary, .int v_acts, .int v_next, .ref o_kept, .ref o_isKept, .ref o_knownPlace, .ref o_knownLetter, .int v_known, .long v_seed, .int v_wide, .int v_bits, .int v_parity, .int v_stops, .int v_idle, .int v_frames, .int v_failed, .int v_failedAt, .int v_margin, .ref o_letters, .ref o_starts, .int v_bestFrames, .ref o_bestLetters, .int v_alike, .int v_fitting, .ref o_deep, .ref o_worth, .int v_readLevel, .int v_readMany, .ref o_readTicks, .int v_part, .int v_ten])), (o_isKept, .inl (cZ, 2, .inl v_isKept)), (o_now, .inl (cI, 361, .inl v_now)), (o_readTicks, .inl (cI, 360, .inl v_readTicks)), (o_text, .inl (cI, 99, .inl v_text))] (fun (r : Int32) (u : Int32 × Int32 × Int32 × Int32 × Int32 × (Nat → Int32) × (Nat → Int32) × (Nat → Int32)) => Q r u.1 u.2.1 u.2.2.1 u.2.2.2.1 u.2.2.2.2.1 u.2.2.2.2.2.1 u.2.2.2.2.2.2.1 u.2.2.2.2.2.2.2) (fun (u : Int32 × Int32 × Int32 × Int32 × Int32 × (Nat → Int32) × (Nat → Int32) × (Nat → Int32)) => [(o, .inr (10, [.ref o_text, .int v_length, .ref o_now, .ref o_trial, .ref o_diary, .int u.1, .int v_next, .ref o_kept, .ref o_isKept, .ref o_knownPlace, .ref o_knownLetter, .int v_known, .long v_seed, .int v_wide, .int v_bits, .int v_parity, .int v_stops, .int v_idle, .int v_frames, .int v_failed, .int v_failedAt, .int v_margin, .ref o_letters, .ref o_starts, .int v_bestFrames, .ref o_bestLetters, .int v_alike, .int v_fitting, .ref o_deep, .ref o_worth, .int u.2.2.1, .int u.2.2.2.1, .ref o_readTicks, .int u.2.1, .int u.2.2.2.2.1])), (o_isKept, .inl (cZ, 2, .inl u.2.2.2.2.2.1)), (o_now, .inl (cI, 361, .inl u.2.2.2.2.2.2.1)), (o_readTicks, .inl (cI, 360, .inl u.2.2.2.2.2.2.2)), (o_text, .inl (cI, 99, .inl v_text))]) := by
  refine CtI.of (S := Int32 × Int32 × Int32 × Int32 × Int32 × (Nat → Int32) × (Nat → Int32) × (Nat → Int32)) (y := yX10_take) (Tc := wkX10_take) (rm := rmX10_take) (D := D) (tys := tys4 cI cJ cZ cW) (av := [.ref o]) (wc := [(o, .inr (10, [.ref o_text, .int v_length, .ref o_now, .ref o_trial, .ref o_diary, .int v_acts, .int v_next, .ref o_kept, .ref o_isKept, .ref o_knownPlace, .ref o_knownLetter, .int v_known, .long v_seed, .int v_wide, .int v_bits, .int v_parity, .int v_stops, .int v_idle, .int v_frames, .int v_failed, .int v_failedAt, .int v_margin, .ref o_letters, .ref o_starts, .int v_bestFrames, .ref o_bestLetters, .int v_alike, .int v_fitting, .ref o_deep, .ref o_worth, .int v_readLevel, .int v_readMany, .ref o_readTicks, .int v_part, .int v_ten])), (o_isKept, .inl (cZ, 2, .inl v_isKept)), (o_now, .inl (cI, 361, .inl v_now)), (o_readTicks, .inl (cI, 360, .inl v_readTicks)), (o_text, .inl (cI, 99, .inl v_text))]) (post := (fun (r : Int32) (u : Int32 × Int32 × Int32 × Int32 × Int32 × (Nat → Int32) × (Nat → Int32) × (Nat → Int32)) => Q r u.1 u.2.1 u.2.2.1 u.2.2.2.1 u.2.2.2.2.1 u.2.2.2.2.2.1 u.2.2.2.2.2.2.1 u.2.2.2.2.2.2.2)) (w1 := (fun (u : Int32 × Int32 × Int32 × Int32 × Int32 × (Nat → Int32) × (Nat → Int32) × (Nat → Int32)) => [(o, .inr (10, [.ref o_text, .int v_length, .ref o_now, .ref o_trial, .ref o_diary, .int u.1, .int v_next, .ref o_kept, .ref o_isKept, .ref o_knownPlace, .ref o_knownLetter, .int v_known, .long v_seed, .int v_wide, .int v_bits, .int v_parity, .int v_stops, .int v_idle, .int v_frames, .int v_failed, .int v_failedAt, .int v_margin, .ref o_letters, .ref o_starts, .int v_bestFrames, .ref o_bestLetters, .int v_alike, .int v_fitting, .ref o_deep, .ref o_worth, .int u.2.2.1, .int u.2.2.2.1, .ref o_readTicks, .int u.2.1, .int u.2.2.2.2.1])), (o_isKept, .inl (cZ, 2, .inl u.2.2.2.2.2.1)), (o_now, .inl (cI, 361, .inl u.2.2.2.2.2.2.1)), (o_readTicks, .inl (cI, 360, .inl u.2.2.2.2.2.2.2)), (o_text, .inl (cI, 99, .inl v_text))])) (cc := cX10_take) (maxL := 2) RX10 rfl (by decide +kernel) rfl rfl [(0, .ref o)] rfl ?_
  intro p e s m args below meth c A Qm C hret
  have H14 : ∀ (n14 : Nat) (x1 : Int32) (v_acts : Int32) (v_part : Int32) (v_readLevel : Int32) (v_readMany : Int32) (v_ten : Int32) (v_isKept : (Nat → Int32)) (v_now : (Nat → Int32)) (v_readTicks : (Nat → Int32)), wX10_take_14 fu v_length v_text Q n14 x1 v_acts v_part v_readLevel v_readMany v_ten v_isKept v_now v_readTicks → G p l e rmX10_take s m args below meth c D A 2 0 0 Qm [(o, .inr (10, [.ref o_text, .int v_length, .ref o_now, .ref o_trial, .ref o_diary, .int v_acts, .int v_next, .ref o_kept, .ref o_isKept, .ref o_knownPlace, .ref o_knownLetter, .int v_known, .long v_seed, .int v_wide, .int v_bits, .int v_parity, .int v_stops, .int v_idle, .int v_frames, .int v_failed, .int v_failedAt, .int v_margin, .ref o_letters, .ref o_starts, .int v_bestFrames, .ref o_bestLetters, .int v_alike, .int v_fitting, .ref o_deep, .ref o_worth, .int v_readLevel, .int v_readMany, .ref o_readTicks, .int v_part, .int v_ten])), (o_isKept, .inl (cZ, 2, .inl v_isKept)), (o_now, .inl (cI, 361, .inl v_now)), (o_readTicks, .inl (cI, 360, .inl v_readTicks)), (o_text, .inl (cI, 99, .inl v_text))] [(0, .ref o), (1, .int x1)] 14 [] := by
    intro n14
    induction n14 with
    | zero => intro x1 v_acts v_part v_readLevel v_readMany v_ten v_isKept v_now v_readTicks h; exact False.elim h
    | succ n14 ih14 =>
      have H44 : ∀ (x1 : Int32) (k1 : Int32) (k2 : Int32) (v_acts : Int32) (v_part : Int32) (v_readLevel : Int32) (v_readMany : Int32) (v_ten : Int32) (v_isKept : (Nat → Int32)) (v_now : (Nat → Int32)) (v_readTicks : (Nat → Int32)), wX10_take_44 fu v_length v_text Q (wX10_take_14 fu v_length v_text Q n14) x1 k1 k2 v_acts v_part v_readLevel v_readMany v_ten v_isKept v_now v_readTicks → G p l e rmX10_take s m args below meth c D A 2 0 0 Qm [(o, .inr (10, [.ref o_text, .int v_length, .ref o_now, .ref o_trial, .ref o_diary, .int v_acts, .int v_next, .ref o_kept, .ref o_isKept, .ref o_knownPlace, .ref o_knownLetter, .int v_known, .long v_seed, .int v_wide, .int v_bits, .int v_parity, .int v_stops, .int v_idle, .int v_frames, .int v_failed, .int v_failedAt, .int v_margin, .ref o_letters, .ref o_starts, .int v_bestFrames, .ref o_bestLetters, .int v_alike, .int v_fitting, .ref o_deep, .ref o_worth, .int v_readLevel, .int v_readMany, .ref o_readTicks, .int v_part, .int v_ten])), (o_isKept, .inl (cZ, 2, .inl v_isKept)), (o_now, .inl (cI, 361, .inl v_now)), (o_readTicks, .inl (cI, 360, .inl v_readTicks)), (o_text, .inl (cI, 99, .inl v_text))] [(0, .ref o), (1, .int x1)] 44 [.int k2, .int k1, .ref o_now] := by
        intro x1 k1 k2 v_acts v_part v_readLevel v_readMany v_ten v_isKept v_now v_readTicks h
        unfold wX10_take_44 at h
        obtain ⟨hi11, h⟩ := h
        refine g_iast C 2 0 cI 361 v_now rfl rfl hi11 dX10_take_44 [(o, .inr (10, [.ref o_text, .int v_length, .ref o_now, .ref o_trial, .ref o_diary, .int v_acts, .int v_next, .ref o_kept, .ref o_isKept, .ref o_knownPlace, .ref o_knownLetter, .int v_known, .long v_seed, .int v_wide, .int v_bits, .int v_parity, .int v_stops, .int v_idle, .int v_frames, .int v_failed, .int v_failedAt, .int v_margin, .ref o_letters, .ref o_starts, .int v_bestFrames, .ref o_bestLetters, .int v_alike, .int v_fitting, .ref o_deep, .ref o_worth, .int v_readLevel, .int v_readMany, .ref o_readTicks, .int v_part, .int v_ten])), (o_isKept, .inl (cZ, 2, .inl v_isKept)), (o_now, .inl (cI, 361, .inl (upd v_now (ix k1) k2))), (o_readTicks, .inl (cI, 360, .inl v_readTicks)), (o_text, .inl (cI, 99, .inl v_text))] rfl ?_
        refine g_iinc C 1 x1 (x1 + (1 : Int32)) [(1, .int (x1 + (1 : Int32))), (0, .ref o)] dX10_take_45 rfl rfl (by decide) rfl ?_
        refine g_goto C 14 dX10_take_48 (by decide) ?_
        refine g_lv [1, 0] rfl ?_
        exact ih14  (x1 + (1 : Int32)) v_acts v_part v_readLevel v_readMany v_ten v_isKept (upd v_now (ix k1) k2) v_readTicks h
      intro x1 v_acts v_part v_readLevel v_readMany v_ten v_isKept v_now v_readTicks h
      unfold wX10_take_14 at h
      refine g_iload_n C 1 1 x1 dX10_take_14 rfl rfl ?_
      refine g_sipush C (360 : Int32) dX10_take_15 rfl ?_
      refine g_icmp_ge C 51 dX10_take_18 (by decide) (fun c8 => ?_) (fun c8 => ?_)
      rotate_left
      · have h := wp_f c8 h
        refine g_aload_n C 0 0 o dX10_take_21 rfl rfl ?_
        refine g_get C 10 ix_10 0 _ rfl rfl 2 (by decide) wm_128 rfl (.ref o_now) rfl dX10_take_22 ?_
        refine g_iload_n C 1 1 x1 dX10_take_25 rfl rfl ?_
        refine g_iload_n C 1 1 x1 dX10_take_26 rfl rfl ?_
        refine g_aload_n C 0 0 o dX10_take_27 rfl rfl ?_
        refine g_get C 10 ix_10 0 _ rfl rfl 31 (by decide) wm_206 rfl (.int v_readMany) rfl dX10_take_28 ?_
        refine g_icmp_ge C 43 dX10_take_31 (by decide) (fun c9 => ?_) (fun c9 => ?_)
        · have h := wp_t c9 h
          refine g_iconst C (0 : Int32) dX10_take_43 rfl ?_
          refine g_lv [0, 1] rfl ?_
          exact H44  x1 x1 (0 : Int32) v_acts v_part v_readLevel v_readMany v_ten v_isKept v_now v_readTicks h
        have h := wp_f c9 h
        refine g_aload_n C 0 0 o dX10_take_34 rfl rfl ?_
        refine g_get C 10 ix_10 0 _ rfl rfl 32 (by decide) wm_140 rfl (.ref o_readTicks) rfl dX10_take_35 ?_
        refine g_iload_n C 1 1 x1 dX10_take_38 rfl rfl ?_
        obtain ⟨hi10, h⟩ := h
        refine g_iald C 3 0 cI 360 v_readTicks rfl rfl hi10 dX10_take_39 ?_
        refine g_goto C 44 dX10_take_40 (by decide) ?_
        refine g_lv [0, 1] rfl ?_
        exact H44  x1 x1 (v_readTicks (ix x1)) v_acts v_part v_readLevel v_readMany v_ten v_isKept v_now v_readTicks h
      have h := wp_t c8 h
      refine g_aload_n C 0 0 o dX10_take_51 rfl rfl ?_
      refine g_get C 10 ix_10 0 _ rfl rfl 2 (by decide) wm_128 rfl (.ref o_now) rfl dX10_take_52 ?_
      refine g_sipush C (360 : Int32) dX10_take_55 rfl ?_
      refine g_aload_n C 0 0 o dX10_take_58 rfl rfl ?_
      refine g_get C 10 ix_10 0 _ rfl rfl 31 (by decide) wm_206 rfl (.int v_readMany) rfl dX10_take_59 ?_
      refine g_iast C 2 0 cI 361 v_now rfl rfl (vp_in_dec rfl) dX10_take_62 [(o, .inr (10, [.ref o_text, .int v_length, .ref o_now, .ref o_trial, .ref o_diary, .int v_acts, .int v_next, .ref o_kept, .ref o_isKept, .ref o_knownPlace, .ref o_knownLetter, .int v_known, .long v_seed, .int v_wide, .int v_bits, .int v_parity, .int v_stops, .int v_idle, .int v_frames, .int v_failed, .int v_failedAt, .int v_margin, .ref o_letters, .ref o_starts, .int v_bestFrames, .ref o_bestLetters, .int v_alike, .int v_fitting, .ref o_deep, .ref o_worth, .int v_readLevel, .int v_readMany, .ref o_readTicks, .int v_part, .int v_ten])), (o_isKept, .inl (cZ, 2, .inl v_isKept)), (o_now, .inl (cI, 361, .inl (upd v_now (ix (360 : Int32)) v_readMany))), (o_readTicks, .inl (cI, 360, .inl v_readTicks)), (o_text, .inl (cI, 99, .inl v_text))] rfl ?_
      refine g_aload_n C 0 0 o dX10_take_63 rfl rfl ?_
      refine g_iconst C (0 : Int32) dX10_take_64 rfl ?_
      refine g_put C 10 ix_10 0 _ rfl rfl 5 (by decide) wm_247 rfl tyX10 tyX10_ok nmX10 rfl rfl rfl (Nat.le_of_ble_eq_true rfl) dX10_take_65 [(o, .inr (10, [.ref o_text, .int v_length, .ref o_now, .ref o_trial, .ref o_diary, .int (0 : Int32), .int v_next, .ref o_kept, .ref o_isKept, .ref o_knownPlace, .ref o_knownLetter, .int v_known, .long v_seed, .int v_wide, .int v_bits, .int v_parity, .int v_stops, .int v_idle, .int v_frames, .int v_failed, .int v_failedAt, .int v_margin, .ref o_letters, .ref o_starts, .int v_bestFrames, .ref o_bestLetters, .int v_alike, .int v_fitting, .ref o_deep, .ref o_worth, .int v_readLevel, .int v_readMany, .ref o_readTicks, .int v_part, .int v_ten])), (o_isKept, .inl (cZ, 2, .inl v_isKept)), (o_now, .inl (cI, 361, .inl (upd v_now (ix (360 : Int32)) v_readMany))), (o_readTicks, .inl (cI, 360, .inl v_readTicks)), (o_text, .inl (cI, 99, .inl v_text))] rfl ?_
      refine g_aload_n C 0 0 o dX10_take_68 rfl rfl ?_
      refine g_get C 10 ix_10 0 _ rfl rfl 8 (by decide) wm_132 rfl (.ref o_isKept) rfl dX10_take_69 ?_
      refine g_iconst C (0 : Int32) dX10_take_72 rfl ?_
      refine g_iconst C (0 : Int32) dX10_take_73 rfl ?_
      refine g_zast C 1 2 cZ 2 v_isKept rfl rfl (vp_in_dec rfl) dX10_take_74 [(o, .inr (10, [.ref o_text, .int v_length, .ref o_now, .ref o_trial, .ref o_diary, .int (0 : Int32), .int v_next, .ref o_kept, .ref o_isKept, .ref o_knownPlace, .ref o_knownLetter, .int v_known, .long v_seed, .int v_wide, .int v_bits, .int v_parity, .int v_stops, .int v_idle, .int v_frames, .int v_failed, .int v_failedAt, .int v_margin, .ref o_letters, .ref o_starts, .int v_bestFrames, .ref o_bestLetters, .int v_alike, .int v_fitting, .ref o_deep, .ref o_worth, .int v_readLevel, .int v_readMany, .ref o_readTicks, .int v_part, .int v_ten])), (o_isKept, .inl (cZ, 2, .inl (upd v_isKept (ix (0 : Int32)) (0 : Int32)))), (o_now, .inl (cI, 361, .inl (upd v_now (ix (360 : Int32)) v_readMany))), (o_readTicks, .inl (cI, 360, .inl v_readTicks)), (o_text, .inl (cI, 99, .inl v_text))] rfl ?_
      refine g_aload_n C 0 0 o dX10_take_75 rfl rfl ?_
      refine g_get C 10 ix_10 0 _ rfl rfl 8 (by decide) wm_132 rfl (.ref o_isKept) rfl dX10_take_76 ?_
      refine g_iconst C (1 : Int32) dX10_take_79 rfl ?_
      refine g_iconst C (0 : Int32) dX10_take_80 rfl ?_
      refine g_zast C 1 2 cZ 2 (upd v_isKept (ix (0 : Int32)) (0 : Int32)) rfl rfl (vp_in_dec rfl) dX10_take_81 [(o, .inr (10, [.ref o_text, .int v_length, .ref o_now, .ref o_trial, .ref o_diary, .int (0 : Int32), .int v_next, .ref o_kept, .ref o_isKept, .ref o_knownPlace, .ref o_knownLetter, .int v_known, .long v_seed, .int v_wide, .int v_bits, .int v_parity, .int v_stops, .int v_idle, .int v_frames, .int v_failed, .int v_failedAt, .int v_margin, .ref o_letters, .ref o_starts, .int v_bestFrames, .ref o_bestLetters, .int v_alike, .int v_fitting, .ref o_deep, .ref o_worth, .int v_readLevel, .int v_readMany, .ref o_readTicks, .int v_part, .int v_ten])), (o_isKept, .inl (cZ, 2, .inl (upd (upd v_isKept (ix (0 : Int32)) (0 : Int32)) (ix (1 : Int32)) (0 : Int32)))), (o_now, .inl (cI, 361, .inl (upd v_now (ix (360 : Int32)) v_readMany))), (o_readTicks, .inl (cI, 360, .inl v_readTicks)), (o_text, .inl (cI, 99, .inl v_text))] rfl ?_
      refine g_aload_n C 0 0 o dX10_take_82 rfl rfl ?_
      refine g_get C 10 ix_10 0 _ rfl rfl 31 (by decide) wm_206 rfl (.int v_readMany) rfl dX10_take_83 ?_
      exact hret _ ((0 : Int32), v_part, v_readLevel, v_readMany, v_ten, (upd (upd v_isKept (ix (0 : Int32)) (0 : Int32)) (ix (1 : Int32)) (0 : Int32)), (upd v_now (ix (360 : Int32)) v_readMany), v_readTicks) _ _ _ dX10_take_86 h rfl
  unfold wp_X10_take at h
  refine g_aload_n C 0 0 o dX10_take_0 rfl rfl ?_
  refine g_callVi (As := []) (rest := []) C (c_X10_readText l D cI cJ cZ cW o o_text o_now o_trial o_diary o_kept o_isKept o_knownPlace o_knownLetter o_letters o_starts o_bestLetters o_deep o_worth o_readTicks v_length v_acts v_next v_known v_seed v_wide v_bits v_parity v_stops v_idle v_frames v_failed v_failedAt v_margin v_bestFrames v_alike v_fitting v_readLevel v_readMany v_part v_ten v_readTicks v_text fu _ h) 0 gd_X10_81 rfl rfl rfl (by decide +kernel) ⟨Nat.le_of_ble_eq_true rfl, Nat.le_of_ble_eq_true rfl⟩ ⟨Nat.le_of_ble_eq_true rfl, Nat.le_of_ble_eq_true rfl⟩ 10 0 rfl rfl rfl rfl (Nat.le_of_ble_eq_true rfl) [0, 3, 4] [some 0, none, none, some 1, some 2] rfl rfl rfl dX10_take_1 (fun r6 u h => ?_)
  obtain ⟨z1, z2, z3, z4, z5⟩ := u
  refine ⟨[(o, .inr (10, [.ref o_text, .int v_length, .ref o_now, .ref o_trial, .ref o_diary, .int v_acts, .int v_next, .ref o_kept, .ref o_isKept, .ref o_knownPlace, .ref o_knownLetter, .int v_known, .long v_seed, .int v_wide, .int v_bits, .int v_parity, .int v_stops, .int v_idle, .int v_frames, .int v_failed, .int v_failedAt, .int v_margin, .ref o_letters, .ref o_starts, .int v_bestFrames, .ref o_bestLetters, .int v_alike, .int v_fitting, .ref o_deep, .ref o_worth, .int z2, .int z3, .ref o_readTicks, .int z1, .int z4])), (o_isKept, .inl (cZ, 2, .inl v_isKept)), (o_now, .inl (cI, 361, .inl v_now)), (o_readTicks, .inl (cI, 360, .inl z5)), (o_text, .inl (cI, 99, .inl v_text))], rfl, rfl, rfl, ?_⟩
  refine g_bipush C (-9 : Int32) dX10_take_4 rfl ?_
  refine g_icmp_eq C 12 dX10_take_6 (by decide) (fun c7 => ?_) (fun c7 => ?_)
  rotate_left
  · have h := wp_f c7 h
    refine g_bipush C (-3 : Int32) dX10_take_9 rfl ?_
    exact hret _ (v_acts, z1, z2, z3, z4, v_isKept, v_now, z5) _ _ _ dX10_take_11 h rfl
  have h := wp_t c7 h
  refine g_iconst C (0 : Int32) dX10_take_12 rfl ?_
  refine g_istore_n C [(1, .int (0 : Int32)), (0, .ref o)] dX10_take_13 rfl (by decide) rfl ?_
  refine g_lv [1, 0] rfl ?_
  exact H14 fu  (0 : Int32) v_acts z1 z2 z3 z4 v_isKept v_now z5 h
abbrev rmX10_layCode : Room := { frames := 1, cells := 0, slots := 0, locals := 25 }
def wp_X10_layCode (fu : Nat) (x1 : Int32) (v_bits : Int32) (v_idle : Int32) (v_parity : Int32) (v_stops : Int32) (v_wide : Int32) (Q : Int32 → Int32 → Int32 → Int32 → Int32 → Int32 → Prop) : Prop := (∀ y1 : Int32, y1 = (irm x1 (10 : Int32)) → (if x1 ≤ 0 then Q (0 : Int32) (irm (x1 / (1000 : Int32)) (10 : Int32)) ((1 : Int32) - y1) (irm (x1 / (100 : Int32)) (10 : Int32)) (irm (x1 / (10 : Int32)) (10 : Int32)) (x1 / (10000 : Int32)) else wp_X10_in fu (Int32.toInt64 (x1 / (10000 : Int32))) (1 : Int64) (16 : Int64) (fun (r3 : Int32) => (if r3 = 0 then Q (0 : Int32) (irm (x1 / (1000 : Int32)) (10 : Int32)) ((1 : Int32) - y1) (irm (x1 / (100 : Int32)) (10 : Int32)) (irm (x1 / (10 : Int32)) (10 : Int32)) (x1 / (10000 : Int32)) else wp_X10_in fu (Int32.toInt64 (irm (x1 / (1000 : Int32)) (10 : Int32))) (5 : Int64) (8 : Int64) (fun (r5 : Int32) => (if r5 = 0 then Q (0 : Int32) (irm (x1 / (1000 : Int32)) (10 : Int32)) ((1 : Int32) - y1) (irm (x1 / (100 : Int32)) (10 : Int32)) (irm (x1 / (10 : Int32)) (10 : Int32)) (x1 / (10000 : Int32)) else wp_X10_in fu (Int32.toInt64 (irm (x1 / (100 : Int32)) (10 : Int32))) (0 : Int64) (2 : Int64) (fun (r7 : Int32) => (if r7 = 0 then Q (0 : Int32) (irm (x1 / (1000 : Int32)) (10 : Int32)) ((1 : Int32) - y1) (irm (x1 / (100 : Int32)) (10 : Int32)) (irm (x1 / (10 : Int32)) (10 : Int32)) (x1 / (10000 : Int32)) else wp_X10_in fu (Int32.toInt64 (irm (x1 / (10 : Int32)) (10 : Int32))) (1 : Int64) (2 : Int64) (fun (r9 : Int32) => (if r9 = 0 then Q (0 : Int32) (irm (x1 / (1000 : Int32)) (10 : Int32)) ((1 : Int32) - y1) (irm (x1 / (100 : Int32)) (10 : Int32)) (irm (x1 / (10 : Int32)) (10 : Int32)) (x1 / (10000 : Int32)) else wp_X10_in fu (Int32.toInt64 y1) (0 : Int64) (1 : Int64) (fun (r11 : Int32) => (if r11 = 0 then Q (0 : Int32) (irm (x1 / (1000 : Int32)) (10 : Int32)) ((1 : Int32) - y1) (irm (x1 / (100 : Int32)) (10 : Int32)) (irm (x1 / (10 : Int32)) (10 : Int32)) (x1 / (10000 : Int32)) else Q (1 : Int32) (irm (x1 / (1000 : Int32)) (10 : Int32)) ((1 : Int32) - y1) (irm (x1 / (100 : Int32)) (10 : Int32)) (irm (x1 / (10 : Int32)) (10 : Int32)) (x1 / (10000 : Int32))))))))))))))
set_option maxHeartbeats 4000000 in
set_option maxRecDepth 100000 in
theorem c_X10_layCode (l : Launch) (D : va_G) (cI cJ cZ cW : ClassId) (o o_text o_now o_trial o_diary o_kept o_isKept o_knownPlace o_knownLetter o_letters o_starts o_bestLetters o_deep o_worth o_readTicks : Nat) (v_length : Int32) (v_acts : Int32) (v_next : Int32) (v_known : Int32) (v_seed : Int64) (v_wide : Int32) (v_bits : Int32) (v_parity : Int32) (v_stops : Int32) (v_idle : Int32) (v_frames : Int32) (v_failed : Int32) (v_failedAt : Int32) (v_margin : Int32) (v_bestFrames : Int32) (v_alike : Int32) (v_fitting : Int32) (v_readLevel : Int32) (v_readMany : Int32) (v_part : Int32) (v_ten : Int32) (x1 : Int32) (fu : Nat) (Q : Int32 → Int32 → Int32 → Int32 → Int32 → Int32 → Prop) (h : wp_X10_layCode fu x1 v_bits v_idle v_parity v_stops v_wide Q) : CtI l yX10_layCode wkX10_layCode rmX10_layCode D (tys4 cI cJ cZ cW) [.ref o, .int x1] [(o, .inr (10, [.ref o_text, .int v_length, .ref o_now, .ref o_trial, .ref o_diary, .int v_acts, .int v_next, .ref o_kept, .ref o_isKept, .ref o_knownPlace, .ref o_knownLetter, .int v_known, .long v_seed, .int v_wide, .int v_bits, .int v_parity, .int v_stops, .int v_idle, .int v_frames, .int v_failed, .int v_failedAt, .int v_margin, .ref o_letters, .ref o_starts, .int v_bestFrames, .ref o_bestLetters, .int v_alike, .int v_fitting, .ref o_deep, .ref o_worth, .int v_readLevel, .int v_readMany, .ref o_readTicks, .int v_part, .int v_ten]))] (fun (r : Int32) (u : Int32 × Int32 × Int32 × Int32 × Int32) => (r = 0 ∨ r = 1) ∧ (fun (r : Int32) (u : Int32 × Int32 × Int32 × Int32 × Int32) => Q r u.1 u.2.1 u.2.2.1 u.2.2.2.1 u.2.2.2.2) r u) (fun (u : Int32 × Int32 × Int32 × Int32 × Int32) => [(o, .inr (10, [.ref o_text, .int v_length, .ref o_now, .ref o_trial, .ref o_diary, .int v_acts, .int v_next, .ref o_kept, .ref o_isKept, .ref o_knownPlace, .ref o_knownLetter, .int v_known, .long v_seed, .int u.2.2.2.2, .int u.1, .int u.2.2.1, .int u.2.2.2.1, .int u.2.1, .int v_frames, .int v_failed, .int v_failedAt, .int v_margin, .ref o_letters, .ref o_starts, .int v_bestFrames, .ref o_bestLetters, .int v_alike, .int v_fitting, .ref o_deep, .ref o_worth, .int v_readLevel, .int v_readMany, .ref o_readTicks, .int v_part, .int v_ten]))]) := by
  refine CtI.ofZ (S := Int32 × Int32 × Int32 × Int32 × Int32) (y := yX10_layCode) (Tc := wkX10_layCode) (rm := rmX10_layCode) (D := D) (tys := tys4 cI cJ cZ cW) (av := [.ref o, .int x1]) (wc := [(o, .inr (10, [.ref o_text, .int v_length, .ref o_now, .ref o_trial, .ref o_diary, .int v_acts, .int v_next, .ref o_kept, .ref o_isKept, .ref o_knownPlace, .ref o_knownLetter, .int v_known, .long v_seed, .int v_wide, .int v_bits, .int v_parity, .int v_stops, .int v_idle, .int v_frames, .int v_failed, .int v_failedAt, .int v_margin, .ref o_letters, .ref o_starts, .int v_bestFrames, .ref o_bestLetters, .int v_alike, .int v_fitting, .ref o_deep, .ref o_worth, .int v_readLevel, .int v_readMany, .ref o_readTicks, .int v_part, .int v_ten]))]) (post := (fun (r : Int32) (u : Int32 × Int32 × Int32 × Int32 × Int32) => Q r u.1 u.2.1 u.2.2.1 u.2.2.2.1 u.2.2.2.2)) (w1 := (fun (u : Int32 × Int32 × Int32 × Int32 × Int32) => [(o, .inr (10, [.ref o_text, .int v_length, .ref o_now, .ref o_trial, .ref o_diary, .int v_acts, .int v_next, .ref o_kept, .ref o_isKept, .ref o_knownPlace, .ref o_knownLetter, .int v_known, .long v_seed, .int u.2.2.2.2, .int u.1, .int u.2.2.1, .int u.2.2.2.1, .int u.2.1, .int v_frames, .int v_failed, .int v_failedAt, .int v_margin, .ref o_letters, .ref o_starts, .int v_bestFrames, .ref o_bestLetters, .int v_alike, .int v_fitting, .ref o_deep, .ref o_worth, .int v_readLevel, .int v_readMany, .ref o_readTicks, .int v_part, .int v_ten]))])) (cc := cX10_layCode) (maxL := 3) RX10 rfl (by decide +kernel) rfl rfl [(0, .ref o), (1, .int x1)] rfl ?_
  intro p e s m args below meth c A Qm C hret
  unfold wp_X10_layCode at h
  refine g_aload_n C 0 0 o dX10_layCode_0 rfl rfl ?_
  refine g_iload_n C 1 1 x1 dX10_layCode_1 rfl rfl ?_
  refine g_sipush C (10000 : Int32) dX10_layCode_2 rfl ?_
  refine g_idiv C (by decide) dX10_layCode_5 ?_
  refine g_put C 10 ix_10 0 _ rfl rfl 13 (by decide) wm_408 rfl tyX10 tyX10_ok nmX10 rfl rfl rfl (Nat.le_of_ble_eq_true rfl) dX10_layCode_6 [(o, .inr (10, [.ref o_text, .int v_length, .ref o_now, .ref o_trial, .ref o_diary, .int v_acts, .int v_next, .ref o_kept, .ref o_isKept, .ref o_knownPlace, .ref o_knownLetter, .int v_known, .long v_seed, .int (x1 / (10000 : Int32)), .int v_bits, .int v_parity, .int v_stops, .int v_idle, .int v_frames, .int v_failed, .int v_failedAt, .int v_margin, .ref o_letters, .ref o_starts, .int v_bestFrames, .ref o_bestLetters, .int v_alike, .int v_fitting, .ref o_deep, .ref o_worth, .int v_readLevel, .int v_readMany, .ref o_readTicks, .int v_part, .int v_ten]))] rfl ?_
  refine g_aload_n C 0 0 o dX10_layCode_9 rfl rfl ?_
  refine g_iload_n C 1 1 x1 dX10_layCode_10 rfl rfl ?_
  refine g_sipush C (1000 : Int32) dX10_layCode_11 rfl ?_
  refine g_idiv C (by decide) dX10_layCode_14 ?_
  refine g_bipush C (10 : Int32) dX10_layCode_15 rfl ?_
  refine g_irem C (by decide) dX10_layCode_17 ?_
  refine g_put C 10 ix_10 0 _ rfl rfl 14 (by decide) wm_409 rfl tyX10 tyX10_ok nmX10 rfl rfl rfl (Nat.le_of_ble_eq_true rfl) dX10_layCode_18 [(o, .inr (10, [.ref o_text, .int v_length, .ref o_now, .ref o_trial, .ref o_diary, .int v_acts, .int v_next, .ref o_kept, .ref o_isKept, .ref o_knownPlace, .ref o_knownLetter, .int v_known, .long v_seed, .int (x1 / (10000 : Int32)), .int (irm (x1 / (1000 : Int32)) (10 : Int32)), .int v_parity, .int v_stops, .int v_idle, .int v_frames, .int v_failed, .int v_failedAt, .int v_margin, .ref o_letters, .ref o_starts, .int v_bestFrames, .ref o_bestLetters, .int v_alike, .int v_fitting, .ref o_deep, .ref o_worth, .int v_readLevel, .int v_readMany, .ref o_readTicks, .int v_part, .int v_ten]))] rfl ?_
  refine g_aload_n C 0 0 o dX10_layCode_21 rfl rfl ?_
  refine g_iload_n C 1 1 x1 dX10_layCode_22 rfl rfl ?_
  refine g_bipush C (100 : Int32) dX10_layCode_23 rfl ?_
  refine g_idiv C (by decide) dX10_layCode_25 ?_
  refine g_bipush C (10 : Int32) dX10_layCode_26 rfl ?_
  refine g_irem C (by decide) dX10_layCode_28 ?_
  refine g_put C 10 ix_10 0 _ rfl rfl 15 (by decide) wm_410 rfl tyX10 tyX10_ok nmX10 rfl rfl rfl (Nat.le_of_ble_eq_true rfl) dX10_layCode_29 [(o, .inr (10, [.ref o_text, .int v_length, .ref o_now, .ref o_trial, .ref o_diary, .int v_acts, .int v_next, .ref o_kept, .ref o_isKept, .ref o_knownPlace, .ref o_knownLetter, .int v_known, .long v_seed, .int (x1 / (10000 : Int32)), .int (irm (x1 / (1000 : Int32)) (10 : Int32)), .int (irm (x1 / (100 : Int32)) (10 : Int32)), .int v_stops, .int v_idle, .int v_frames, .int v_failed, .int v_failedAt, .int v_margin, .ref o_letters, .ref o_starts, .int v_bestFrames, .ref o_bestLetters, .int v_alike, .int v_fitting, .ref o_deep, .ref o_worth, .int v_readLevel, .int v_readMany, .ref o_readTicks, .int v_part, .int v_ten]))] rfl ?_
  refine g_aload_n C 0 0 o dX10_layCode_32 rfl rfl ?_
  refine g_iload_n C 1 1 x1 dX10_layCode_33 rfl rfl ?_
  refine g_bipush C (10 : Int32) dX10_layCode_34 rfl ?_
  refine g_idiv C (by decide) dX10_layCode_36 ?_
  refine g_bipush C (10 : Int32) dX10_layCode_37 rfl ?_
  refine g_irem C (by decide) dX10_layCode_39 ?_
  refine g_put C 10 ix_10 0 _ rfl rfl 16 (by decide) wm_411 rfl tyX10 tyX10_ok nmX10 rfl rfl rfl (Nat.le_of_ble_eq_true rfl) dX10_layCode_40 [(o, .inr (10, [.ref o_text, .int v_length, .ref o_now, .ref o_trial, .ref o_diary, .int v_acts, .int v_next, .ref o_kept, .ref o_isKept, .ref o_knownPlace, .ref o_knownLetter, .int v_known, .long v_seed, .int (x1 / (10000 : Int32)), .int (irm (x1 / (1000 : Int32)) (10 : Int32)), .int (irm (x1 / (100 : Int32)) (10 : Int32)), .int (irm (x1 / (10 : Int32)) (10 : Int32)), .int v_idle, .int v_frames, .int v_failed, .int v_failedAt, .int v_margin, .ref o_letters, .ref o_starts, .int v_bestFrames, .ref o_bestLetters, .int v_alike, .int v_fitting, .ref o_deep, .ref o_worth, .int v_readLevel, .int v_readMany, .ref o_readTicks, .int v_part, .int v_ten]))] rfl ?_
  refine g_iload_n C 1 1 x1 dX10_layCode_43 rfl rfl ?_
  refine g_bipush C (10 : Int32) dX10_layCode_44 rfl ?_
  refine g_irem C (by decide) dX10_layCode_46 ?_
  refine g_topi (fun y1 ey1 => ?_)
  have h := h y1 ey1
  refine g_istore_n C [(2, .int y1), (0, .ref o), (1, .int x1)] dX10_layCode_47 rfl (by decide) rfl ?_
  refine g_aload_n C 0 1 o dX10_layCode_48 rfl rfl ?_
  refine g_iconst C (1 : Int32) dX10_layCode_49 rfl ?_
  refine g_iload_n C 2 0 y1 dX10_layCode_50 rfl rfl ?_
  refine g_isub C dX10_layCode_51 ?_
  refine g_put C 10 ix_10 0 _ rfl rfl 17 (by decide) wm_412 rfl tyX10 tyX10_ok nmX10 rfl rfl rfl (Nat.le_of_ble_eq_true rfl) dX10_layCode_52 [(o, .inr (10, [.ref o_text, .int v_length, .ref o_now, .ref o_trial, .ref o_diary, .int v_acts, .int v_next, .ref o_kept, .ref o_isKept, .ref o_knownPlace, .ref o_knownLetter, .int v_known, .long v_seed, .int (x1 / (10000 : Int32)), .int (irm (x1 / (1000 : Int32)) (10 : Int32)), .int (irm (x1 / (100 : Int32)) (10 : Int32)), .int (irm (x1 / (10 : Int32)) (10 : Int32)), .int ((1 : Int32) - y1), .int v_frames, .int v_failed, .int v_failedAt, .int v_margin, .ref o_letters, .ref o_starts, .int v_bestFrames, .ref o_bestLetters, .int v_alike, .int v_fitting, .ref o_deep, .ref o_worth, .int v_readLevel, .int v_readMany, .ref o_readTicks, .int v_part, .int v_ten]))] rfl ?_
  refine g_iload_n C 1 2 x1 dX10_layCode_55 rfl rfl ?_
  refine g_if_le C 135 dX10_layCode_56 (by decide) (fun c2 => ?_) (fun c2 => ?_)
  · have h := wp_t c2 h
    refine g_iconst C (0 : Int32) dX10_layCode_135 rfl ?_
    exact hret _ ((irm (x1 / (1000 : Int32)) (10 : Int32)), ((1 : Int32) - y1), (irm (x1 / (100 : Int32)) (10 : Int32)), (irm (x1 / (10 : Int32)) (10 : Int32)), (x1 / (10000 : Int32))) _ _ _ (Or.inl rfl) dX10_layCode_136 h rfl
  have h := wp_f c2 h
  refine g_aload_n C 0 1 o dX10_layCode_59 rfl rfl ?_
  refine g_get C 10 ix_10 0 _ rfl rfl 13 (by decide) wm_408 rfl (.int (x1 / (10000 : Int32))) rfl dX10_layCode_60 ?_
  refine g_i2l C dX10_layCode_63 ?_
  refine g_lconst C (1 : Int64) dX10_layCode_64 rfl ?_
  refine g_ldc2 C (16 : Int64) wm_413 dX10_layCode_65 ?_
  refine g_callSi0 (As := [.long (Int32.toInt64 (x1 / (10000 : Int32))), .long (1 : Int64), .long (16 : Int64)]) (rest := []) C (c_X10_in l D cI cJ cZ cW (Int32.toInt64 (x1 / (10000 : Int32))) (1 : Int64) (16 : Int64) fu _ h) 3 gd_X10_53 rfl rfl rfl (by decide +kernel) ⟨Nat.le_of_ble_eq_true rfl, Nat.le_of_ble_eq_true rfl⟩ ⟨Nat.le_of_ble_eq_true rfl, Nat.le_of_ble_eq_true rfl⟩ rfl rfl (Nat.le_of_ble_eq_true rfl) [] rfl rfl dX10_layCode_68 (fun r3 h => ?_)
  obtain ⟨hzr3, h⟩ := h
  refine g_if_eq C 135 dX10_layCode_71 (by decide) (fun c4 => ?_) (fun c4 => ?_)
  · have h := wp_t c4 h
    refine g_iconst C (0 : Int32) dX10_layCode_135 rfl ?_
    exact hret _ ((irm (x1 / (1000 : Int32)) (10 : Int32)), ((1 : Int32) - y1), (irm (x1 / (100 : Int32)) (10 : Int32)), (irm (x1 / (10 : Int32)) (10 : Int32)), (x1 / (10000 : Int32))) _ _ _ (Or.inl rfl) dX10_layCode_136 h rfl
  have h := wp_f c4 h
  refine g_aload_n C 0 1 o dX10_layCode_74 rfl rfl ?_
  refine g_get C 10 ix_10 0 _ rfl rfl 14 (by decide) wm_409 rfl (.int (irm (x1 / (1000 : Int32)) (10 : Int32))) rfl dX10_layCode_75 ?_
  refine g_i2l C dX10_layCode_78 ?_
  refine g_ldc2 C (5 : Int64) wm_414 dX10_layCode_79 ?_
  refine g_ldc2 C (8 : Int64) wm_415 dX10_layCode_82 ?_
  refine g_callSi0 (As := [.long (Int32.toInt64 (irm (x1 / (1000 : Int32)) (10 : Int32))), .long (5 : Int64), .long (8 : Int64)]) (rest := []) C (c_X10_in l D cI cJ cZ cW (Int32.toInt64 (irm (x1 / (1000 : Int32)) (10 : Int32))) (5 : Int64) (8 : Int64) fu _ h) 3 gd_X10_53 rfl rfl rfl (by decide +kernel) ⟨Nat.le_of_ble_eq_true rfl, Nat.le_of_ble_eq_true rfl⟩ ⟨Nat.le_of_ble_eq_true rfl, Nat.le_of_ble_eq_true rfl⟩ rfl rfl (Nat.le_of_ble_eq_true rfl) [] rfl rfl dX10_layCode_85 (fun r5 h => ?_)
  obtain ⟨hzr5, h⟩ := h
  refine g_if_eq C 135 dX10_layCode_88 (by decide) (fun c6 => ?_) (fun c6 => ?_)
  · have h := wp_t c6 h
    refine g_iconst C (0 : Int32) dX10_layCode_135 rfl ?_
    exact hret _ ((irm (x1 / (1000 : Int32)) (10 : Int32)), ((1 : Int32) - y1), (irm (x1 / (100 : Int32)) (10 : Int32)), (irm (x1 / (10 : Int32)) (10 : Int32)), (x1 / (10000 : Int32))) _ _ _ (Or.inl rfl) dX10_layCode_136 h rfl
  have h := wp_f c6 h
  refine g_aload_n C 0 1 o dX10_layCode_91 rfl rfl ?_
  refine g_get C 10 ix_10 0 _ rfl rfl 15 (by decide) wm_410 rfl (.int (irm (x1 / (100 : Int32)) (10 : Int32))) rfl dX10_layCode_92 ?_
  refine g_i2l C dX10_layCode_95 ?_
  refine g_lconst C (0 : Int64) dX10_layCode_96 rfl ?_
  refine g_ldc2 C (2 : Int64) wm_416 dX10_layCode_97 ?_
  refine g_callSi0 (As := [.long (Int32.toInt64 (irm (x1 / (100 : Int32)) (10 : Int32))), .long (0 : Int64), .long (2 : Int64)]) (rest := []) C (c_X10_in l D cI cJ cZ cW (Int32.toInt64 (irm (x1 / (100 : Int32)) (10 : Int32))) (0 : Int64) (2 : Int64) fu _ h) 3 gd_X10_53 rfl rfl rfl (by decide +kernel) ⟨Nat.le_of_ble_eq_true rfl, Nat.le_of_ble_eq_true rfl⟩ ⟨Nat.le_of_ble_eq_true rfl, Nat.le_of_ble_eq_true rfl⟩ rfl rfl (Nat.le_of_ble_eq_true rfl) [] rfl rfl dX10_layCode_100 (fun r7 h => ?_)
  obtain ⟨hzr7, h⟩ := h
  refine g_if_eq C 135 dX10_layCode_103 (by decide) (fun c8 => ?_) (fun c8 => ?_)
  · have h := wp_t c8 h
    refine g_iconst C (0 : Int32) dX10_layCode_135 rfl ?_
    exact hret _ ((irm (x1 / (1000 : Int32)) (10 : Int32)), ((1 : Int32) - y1), (irm (x1 / (100 : Int32)) (10 : Int32)), (irm (x1 / (10 : Int32)) (10 : Int32)), (x1 / (10000 : Int32))) _ _ _ (Or.inl rfl) dX10_layCode_136 h rfl
  have h := wp_f c8 h
  refine g_aload_n C 0 1 o dX10_layCode_106 rfl rfl ?_
  refine g_get C 10 ix_10 0 _ rfl rfl 16 (by decide) wm_411 rfl (.int (irm (x1 / (10 : Int32)) (10 : Int32))) rfl dX10_layCode_107 ?_
  refine g_i2l C dX10_layCode_110 ?_
  refine g_lconst C (1 : Int64) dX10_layCode_111 rfl ?_
  refine g_ldc2 C (2 : Int64) wm_416 dX10_layCode_112 ?_
  refine g_callSi0 (As := [.long (Int32.toInt64 (irm (x1 / (10 : Int32)) (10 : Int32))), .long (1 : Int64), .long (2 : Int64)]) (rest := []) C (c_X10_in l D cI cJ cZ cW (Int32.toInt64 (irm (x1 / (10 : Int32)) (10 : Int32))) (1 : Int64) (2 : Int64) fu _ h) 3 gd_X10_53 rfl rfl rfl (by decide +kernel) ⟨Nat.le_of_ble_eq_true rfl, Nat.le_of_ble_eq_true rfl⟩ ⟨Nat.le_of_ble_eq_true rfl, Nat.le_of_ble_eq_true rfl⟩ rfl rfl (Nat.le_of_ble_eq_true rfl) [] rfl rfl dX10_layCode_115 (fun r9 h => ?_)
  obtain ⟨hzr9, h⟩ := h
  refine g_if_eq C 135 dX10_layCode_118 (by decide) (fun c10 => ?_) (fun c10 => ?_)
  · have h := wp_t c10 h
    refine g_iconst C (0 : Int32) dX10_layCode_135 rfl ?_
    exact hret _ ((irm (x1 / (1000 : Int32)) (10 : Int32)), ((1 : Int32) - y1), (irm (x1 / (100 : Int32)) (10 : Int32)), (irm (x1 / (10 : Int32)) (10 : Int32)), (x1 / (10000 : Int32))) _ _ _ (Or.inl rfl) dX10_layCode_136 h rfl
  have h := wp_f c10 h
  refine g_iload_n C 2 0 y1 dX10_layCode_121 rfl rfl ?_
  refine g_i2l C dX10_layCode_122 ?_
  refine g_lconst C (0 : Int64) dX10_layCode_123 rfl ?_
  refine g_lconst C (1 : Int64) dX10_layCode_124 rfl ?_
  refine g_callSi0 (As := [.long (Int32.toInt64 y1), .long (0 : Int64), .long (1 : Int64)]) (rest := []) C (c_X10_in l D cI cJ cZ cW (Int32.toInt64 y1) (0 : Int64) (1 : Int64) fu _ h) 3 gd_X10_53 rfl rfl rfl (by decide +kernel) ⟨Nat.le_of_ble_eq_true rfl, Nat.le_of_ble_eq_true rfl⟩ ⟨Nat.le_of_ble_eq_true rfl, Nat.le_of_ble_eq_true rfl⟩ rfl rfl (Nat.le_of_ble_eq_true rfl) [] rfl rfl dX10_layCode_125 (fun r11 h => ?_)
  obtain ⟨hzr11, h⟩ := h
  refine g_if_eq C 135 dX10_layCode_128 (by decide) (fun c12 => ?_) (fun c12 => ?_)
  · have h := wp_t c12 h
    refine g_iconst C (0 : Int32) dX10_layCode_135 rfl ?_
    exact hret _ ((irm (x1 / (1000 : Int32)) (10 : Int32)), ((1 : Int32) - y1), (irm (x1 / (100 : Int32)) (10 : Int32)), (irm (x1 / (10 : Int32)) (10 : Int32)), (x1 / (10000 : Int32))) _ _ _ (Or.inl rfl) dX10_layCode_136 h rfl
  have h := wp_f c12 h
  refine g_iconst C (1 : Int32) dX10_layCode_131 rfl ?_
  refine g_goto C 136 dX10_layCode_132 (by decide) ?_
  exact hret _ ((irm (x1 / (1000 : Int32)) (10 : Int32)), ((1 : Int32) - y1), (irm (x1 / (100 : Int32)) (10 : Int32)), (irm (x1 / (10 : Int32)) (10 : Int32)), (x1 / (10000 : Int32))) _ _ _ (Or.inr rfl) dX10_layCode_136 h rfl
abbrev rmX10_frameBits : Room := { frames := 0, cells := 0, slots := 0, locals := 0 }
def wp_X10_frameBits (fu : Nat) (v_bits : Int32) (v_parity : Int32) (v_stops : Int32) (Q : Int32 → Prop) : Prop := (if v_parity ≤ 0 then Q ((((1 : Int32) + v_bits) + (0 : Int32)) + v_stops) else Q ((((1 : Int32) + v_bits) + (1 : Int32)) + v_stops))
set_option maxHeartbeats 4000000 in
set_option maxRecDepth 100000 in
theorem c_X10_frameBits (l : Launch) (D : va_G) (cI cJ cZ cW : ClassId) (o o_text o_now o_trial o_diary o_kept o_isKept o_knownPlace o_knownLetter o_letters o_starts o_bestLetters o_deep o_worth o_readTicks : Nat) (v_length : Int32) (v_acts : Int32) (v_next : Int32) (v_known : Int32) (v_seed : Int64) (v_wide : Int32) (v_bits : Int32) (v_parity : Int32) (v_stops : Int32) (v_idle : Int32) (v_frames : Int32) (v_failed : Int32) (v_failedAt : Int32) (v_margin : Int32) (v_bestFrames : Int32) (v_alike : Int32) (v_fitting : Int32) (v_readLevel : Int32) (v_readMany : Int32) (v_part : Int32) (v_ten : Int32) (fu : Nat) (Q : Int32 → Prop) (h : wp_X10_frameBits fu v_bits v_parity v_stops Q) : CtI l yX10_frameBits wkX10_frameBits rmX10_frameBits D (tys4 cI cJ cZ cW) [.ref o] [(o, .inr (10, [.ref o_text, .int v_length, .ref o_now, .ref o_trial, .ref o_diary, .int v_acts, .int v_next, .ref o_kept, .ref o_isKept, .ref o_knownPlace, .ref o_knownLetter, .int v_known, .long v_seed, .int v_wide, .int v_bits, .int v_parity, .int v_stops, .int v_idle, .int v_frames, .int v_failed, .int v_failedAt, .int v_margin, .ref o_letters, .ref o_starts, .int v_bestFrames, .ref o_bestLetters, .int v_alike, .int v_fitting, .ref o_deep, .ref o_worth, .int v_readLevel, .int v_readMany, .ref o_readTicks, .int v_part, .int v_ten]))] (fun (r : Int32) (u : Unit) => Q r ) (fun (_ : Unit) => [(o, .inr (10, [.ref o_text, .int v_length, .ref o_now, .ref o_trial, .ref o_diary, .int v_acts, .int v_next, .ref o_kept, .ref o_isKept, .ref o_knownPlace, .ref o_knownLetter, .int v_known, .long v_seed, .int v_wide, .int v_bits, .int v_parity, .int v_stops, .int v_idle, .int v_frames, .int v_failed, .int v_failedAt, .int v_margin, .ref o_letters, .ref o_starts, .int v_bestFrames, .ref o_bestLetters, .int v_alike, .int v_fitting, .ref o_deep, .ref o_worth, .int v_readLevel, .int v_readMany, .ref o_readTicks, .int v_part, .int v_ten]))]) := by
  refine CtI.of (S := Unit) (y := yX10_frameBits) (Tc := wkX10_frameBits) (rm := rmX10_frameBits) (D := D) (tys := tys4 cI cJ cZ cW) (av := [.ref o]) (wc := [(o, .inr (10, [.ref o_text, .int v_length, .ref o_now, .ref o_trial, .ref o_diary, .int v_acts, .int v_next, .ref o_kept, .ref o_isKept, .ref o_knownPlace, .ref o_knownLetter, .int v_known, .long v_seed, .int v_wide, .int v_bits, .int v_parity, .int v_stops, .int v_idle, .int v_frames, .int v_failed, .int v_failedAt, .int v_margin, .ref o_letters, .ref o_starts, .int v_bestFrames, .ref o_bestLetters, .int v_alike, .int v_fitting, .ref o_deep, .ref o_worth, .int v_readLevel, .int v_readMany, .ref o_readTicks, .int v_part, .int v_ten]))]) (post := (fun (r : Int32) (u : Unit) => Q r )) (w1 := (fun (_ : Unit) => [(o, .inr (10, [.ref o_text, .int v_length, .ref o_now, .ref o_trial, .ref o_diary, .int v_acts, .int v_next, .ref o_kept, .ref o_isKept, .ref o_knownPlace, .ref o_knownLetter, .int v_known, .long v_seed, .int v_wide, .int v_bits, .int v_parity, .int v_stops, .int v_idle, .int v_frames, .int v_failed, .int v_failedAt, .int v_margin, .ref o_letters, .ref o_starts, .int v_bestFrames, .ref o_bestLetters, .int v_alike, .int v_fitting, .ref o_deep, .ref o_worth, .int v_readLevel, .int v_readMany, .ref o_readTicks, .int v_part, .int v_ten]))])) (cc := cX10_frameBits) (maxL := 1) RX10 rfl (by decide +kernel) rfl rfl [(0, .ref o)] rfl ?_
  intro p e s m args below meth c A Qm C hret
  unfold wp_X10_frameBits at h
  refine g_iconst C (1 : Int32) dX10_frameBits_0 rfl ?_
  refine g_aload_n C 0 0 o dX10_frameBits_1 rfl rfl ?_
  refine g_get C 10 ix_10 0 _ rfl rfl 14 (by decide) wm_409 rfl (.int v_bits) rfl dX10_frameBits_2 ?_
  refine g_iadd C dX10_frameBits_5 ?_
  refine g_aload_n C 0 0 o dX10_frameBits_6 rfl rfl ?_
  refine g_get C 10 ix_10 0 _ rfl rfl 15 (by decide) wm_410 rfl (.int v_parity) rfl dX10_frameBits_7 ?_
  refine g_if_le C 17 dX10_frameBits_10 (by decide) (fun c1 => ?_) (fun c1 => ?_)
  · have h := wp_t c1 h
    refine g_iconst C (0 : Int32) dX10_frameBits_17 rfl ?_
    refine g_iadd C dX10_frameBits_18 ?_
    refine g_aload_n C 0 0 o dX10_frameBits_19 rfl rfl ?_
    refine g_get C 10 ix_10 0 _ rfl rfl 16 (by decide) wm_411 rfl (.int v_stops) rfl dX10_frameBits_20 ?_
    refine g_iadd C dX10_frameBits_23 ?_
    exact hret _ () _ _ _ dX10_frameBits_24 h rfl
  have h := wp_f c1 h
  refine g_iconst C (1 : Int32) dX10_frameBits_13 rfl ?_
  refine g_goto C 18 dX10_frameBits_14 (by decide) ?_
  refine g_iadd C dX10_frameBits_18 ?_
  refine g_aload_n C 0 0 o dX10_frameBits_19 rfl rfl ?_
  refine g_get C 10 ix_10 0 _ rfl rfl 16 (by decide) wm_411 rfl (.int v_stops) rfl dX10_frameBits_20 ?_
  refine g_iadd C dX10_frameBits_23 ?_
  exact hret _ () _ _ _ dX10_frameBits_24 h rfl
abbrev rmX10_failsBy : Room := { frames := 0, cells := 0, slots := 0, locals := 0 }
def wX10_failsBy_64 (fu : Nat) (v_bits : Int32) (v_parity : Int32) (x1 : Int32) (x2 : Int32) (x3 : Int32) (Q : Int32 → Prop)  : Prop := (if x2 = 0 then Q (3 : Int32) else Q (0 : Int32))
def wX10_failsBy_55 (fu : Nat) (v_bits : Int32) (v_parity : Int32) (x1 : Int32) (x2 : Int32) (x3 : Int32) (Q : Int32 → Prop) (k0 : Int32) (k1 : Int32) : Prop := (if k0 = k1 then Q (0 : Int32) else Q (2 : Int32))
def wp_X10_failsBy (fu : Nat) (v_bits : Int32) (v_parity : Int32) (x1 : Int32) (x2 : Int32) (x3 : Int32) (Q : Int32 → Prop) : Prop := (if x1 = 0 then (if x2 = 0 then Q (0 : Int32) else Q (1 : Int32)) else (if v_bits < x1 then (if v_parity ≤ 0 then wX10_failsBy_64 fu v_bits v_parity x1 x2 x3 Q  else (if x1 = (v_bits + (1 : Int32)) then (if v_parity = (2 : Int32) then wX10_failsBy_55 fu v_bits v_parity x1 x2 x3 Q x3 (1 : Int32) else wX10_failsBy_55 fu v_bits v_parity x1 x2 x3 Q x3 (0 : Int32)) else wX10_failsBy_64 fu v_bits v_parity x1 x2 x3 Q )) else Q (0 : Int32)))
set_option maxHeartbeats 4000000 in
set_option maxRecDepth 100000 in
theorem c_X10_failsBy (l : Launch) (D : va_G) (cI cJ cZ cW : ClassId) (o o_text o_now o_trial o_diary o_kept o_isKept o_knownPlace o_knownLetter o_letters o_starts o_bestLetters o_deep o_worth o_readTicks : Nat) (v_length : Int32) (v_acts : Int32) (v_next : Int32) (v_known : Int32) (v_seed : Int64) (v_wide : Int32) (v_bits : Int32) (v_parity : Int32) (v_stops : Int32) (v_idle : Int32) (v_frames : Int32) (v_failed : Int32) (v_failedAt : Int32) (v_margin : Int32) (v_bestFrames : Int32) (v_alike : Int32) (v_fitting : Int32) (v_readLevel : Int32) (v_readMany : Int32) (v_part : Int32) (v_ten : Int32) (x1 : Int32) (x2 : Int32) (x3 : Int32) (fu : Nat) (Q : Int32 → Prop) (h : wp_X10_failsBy fu v_bits v_parity x1 x2 x3 Q) : CtI l yX10_failsBy wkX10_failsBy rmX10_failsBy D (tys4 cI cJ cZ cW) [.ref o, .int x1, .int x2, .int x3] [(o, .inr (10, [.ref o_text, .int v_length, .ref o_now, .ref o_trial, .ref o_diary, .int v_acts, .int v_next, .ref o_kept, .ref o_isKept, .ref o_knownPlace, .ref o_knownLetter, .int v_known, .long v_seed, .int v_wide, .int v_bits, .int v_parity, .int v_stops, .int v_idle, .int v_frames, .int v_failed, .int v_failedAt, .int v_margin, .ref o_letters, .ref o_starts, .int v_bestFrames, .ref o_bestLetters, .int v_alike, .int v_fitting, .ref o_deep, .ref o_worth, .int v_readLevel, .int v_readMany, .ref o_readTicks, .int v_part, .int v_ten]))] (fun (r : Int32) (u : Unit) => Q r ) (fun (_ : Unit) => [(o, .inr (10, [.ref o_text, .int v_length, .ref o_now, .ref o_trial, .ref o_diary, .int v_acts, .int v_next, .ref o_kept, .ref o_isKept, .ref o_knownPlace, .ref o_knownLetter, .int v_known, .long v_seed, .int v_wide, .int v_bits, .int v_parity, .int v_stops, .int v_idle, .int v_frames, .int v_failed, .int v_failedAt, .int v_margin, .ref o_letters, .ref o_starts, .int v_bestFrames, .ref o_bestLetters, .int v_alike, .int v_fitting, .ref o_deep, .ref o_worth, .int v_readLevel, .int v_readMany, .ref o_readTicks, .int v_part, .int v_ten]))]) := by
  refine CtI.of (S := Unit) (y := yX10_failsBy) (Tc := wkX10_failsBy) (rm := rmX10_failsBy) (D := D) (tys := tys4 cI cJ cZ cW) (av := [.ref o, .int x1, .int x2, .int x3]) (wc := [(o, .inr (10, [.ref o_text, .int v_length, .ref o_now, .ref o_trial, .ref o_diary, .int v_acts, .int v_next, .ref o_kept, .ref o_isKept, .ref o_knownPlace, .ref o_knownLetter, .int v_known, .long v_seed, .int v_wide, .int v_bits, .int v_parity, .int v_stops, .int v_idle, .int v_frames, .int v_failed, .int v_failedAt, .int v_margin, .ref o_letters, .ref o_starts, .int v_bestFrames, .ref o_bestLetters, .int v_alike, .int v_fitting, .ref o_deep, .ref o_worth, .int v_readLevel, .int v_readMany, .ref o_readTicks, .int v_part, .int v_ten]))]) (post := (fun (r : Int32) (u : Unit) => Q r )) (w1 := (fun (_ : Unit) => [(o, .inr (10, [.ref o_text, .int v_length, .ref o_now, .ref o_trial, .ref o_diary, .int v_acts, .int v_next, .ref o_kept, .ref o_isKept, .ref o_knownPlace, .ref o_knownLetter, .int v_known, .long v_seed, .int v_wide, .int v_bits, .int v_parity, .int v_stops, .int v_idle, .int v_frames, .int v_failed, .int v_failedAt, .int v_margin, .ref o_letters, .ref o_starts, .int v_bestFrames, .ref o_bestLetters, .int v_alike, .int v_fitting, .ref o_deep, .ref o_worth, .int v_readLevel, .int v_readMany, .ref o_readTicks, .int v_part, .int v_ten]))])) (cc := cX10_failsBy) (maxL := 4) RX10 rfl (by decide +kernel) rfl rfl [(0, .ref o), (1, .int x1), (2, .int x2), (3, .int x3)] rfl ?_
  intro p e s m args below meth c A Qm C hret
  have H64 : wX10_failsBy_64 fu v_bits v_parity x1 x2 x3 Q  → G p l e rmX10_failsBy s m args below meth c D A 4 0 0 Qm [(o, .inr (10, [.ref o_text, .int v_length, .ref o_now, .ref o_trial, .ref o_diary, .int v_acts, .int v_next, .ref o_kept, .ref o_isKept, .ref o_knownPlace, .ref o_knownLetter, .int v_known, .long v_seed, .int v_wide, .int v_bits, .int v_parity, .int v_stops, .int v_idle, .int v_frames, .int v_failed, .int v_failedAt, .int v_margin, .ref o_letters, .ref o_starts, .int v_bestFrames, .ref o_bestLetters, .int v_alike, .int v_fitting, .ref o_deep, .ref o_worth, .int v_readLevel, .int v_readMany, .ref o_readTicks, .int v_part, .int v_ten]))] [(2, .int x2)] 64 [] := by
    intro  h
    unfold wX10_failsBy_64 at h
    refine g_iload_n C 2 0 x2 dX10_failsBy_64 rfl rfl ?_
    refine g_if_eq C 72 dX10_failsBy_65 (by decide) (fun c8 => ?_) (fun c8 => ?_)
    · have h := wp_t c8 h
      refine g_iconst C (3 : Int32) dX10_failsBy_72 rfl ?_
      exact hret _ () _ _ _ dX10_failsBy_73 h rfl
    have h := wp_f c8 h
    refine g_iconst C (0 : Int32) dX10_failsBy_68 rfl ?_
    refine g_goto C 73 dX10_failsBy_69 (by decide) ?_
    exact hret _ () _ _ _ dX10_failsBy_73 h rfl
  have H55 : ∀ (k0 : Int32) (k1 : Int32), wX10_failsBy_55 fu v_bits v_parity x1 x2 x3 Q k0 k1 → G p l e rmX10_failsBy s m args below meth c D A 4 0 0 Qm [(o, .inr (10, [.ref o_text, .int v_length, .ref o_now, .ref o_trial, .ref o_diary, .int v_acts, .int v_next, .ref o_kept, .ref o_isKept, .ref o_knownPlace, .ref o_knownLetter, .int v_known, .long v_seed, .int v_wide, .int v_bits, .int v_parity, .int v_stops, .int v_idle, .int v_frames, .int v_failed, .int v_failedAt, .int v_margin, .ref o_letters, .ref o_starts, .int v_bestFrames, .ref o_bestLetters, .int v_alike, .int v_fitting, .ref o_deep, .ref o_worth, .int v_readLevel, .int v_readMany, .ref o_readTicks, .int v_part, .int v_ten]))] [] 55 [.int k1, .int k0] := by
    intro k0 k1 h
    unfold wX10_failsBy_55 at h
    refine g_icmp_ne C 62 dX10_failsBy_55 (by decide) (fun c7 => ?_) (fun c7 => ?_)
    · have h := wp_f c7 h
      refine g_iconst C (2 : Int32) dX10_failsBy_62 rfl ?_
      exact hret _ () _ _ _ dX10_failsBy_63 h rfl
    have h := wp_t c7 h
    refine g_iconst C (0 : Int32) dX10_failsBy_58 rfl ?_
    refine g_goto C 63 dX10_failsBy_59 (by decide) ?_
    exact hret _ () _ _ _ dX10_failsBy_63 h rfl
  unfold wp_X10_failsBy at h
  refine g_iload_n C 1 1 x1 dX10_failsBy_0 rfl rfl ?_
  refine g_if_ne C 14 dX10_failsBy_1 (by decide) (fun c1 => ?_) (fun c1 => ?_)
  rotate_left
  · have h := wp_t c1 h
    refine g_iload_n C 2 2 x2 dX10_failsBy_4 rfl rfl ?_
    refine g_if_eq C 12 dX10_failsBy_5 (by decide) (fun c6 => ?_) (fun c6 => ?_)
    · have h := wp_t c6 h
      refine g_iconst C (0 : Int32) dX10_failsBy_12 rfl ?_
      exact hret _ () _ _ _ dX10_failsBy_13 h rfl
    have h := wp_f c6 h
    refine g_iconst C (1 : Int32) dX10_failsBy_8 rfl ?_
    refine g_goto C 13 dX10_failsBy_9 (by decide) ?_
    exact hret _ () _ _ _ dX10_failsBy_13 h rfl
  have h := wp_f c1 h
  refine g_iload_n C 1 1 x1 dX10_failsBy_14 rfl rfl ?_
  refine g_aload_n C 0 0 o dX10_failsBy_15 rfl rfl ?_
  refine g_get C 10 ix_10 0 _ rfl rfl 14 (by decide) wm_409 rfl (.int v_bits) rfl dX10_failsBy_16 ?_
  refine g_icmp_gt C 24 dX10_failsBy_19 (by decide) (fun c2 => ?_) (fun c2 => ?_)
  rotate_left
  · have h := wp_f c2 h
    refine g_iconst C (0 : Int32) dX10_failsBy_22 rfl ?_
    exact hret _ () _ _ _ dX10_failsBy_23 h rfl
  have h := wp_t c2 h
  refine g_aload_n C 0 0 o dX10_failsBy_24 rfl rfl ?_
  refine g_get C 10 ix_10 0 _ rfl rfl 15 (by decide) wm_410 rfl (.int v_parity) rfl dX10_failsBy_25 ?_
  refine g_if_le C 64 dX10_failsBy_28 (by decide) (fun c3 => ?_) (fun c3 => ?_)
  · have h := wp_t c3 h
    refine g_lv [2] rfl ?_
    exact H64   h
  have h := wp_f c3 h
  refine g_iload_n C 1 1 x1 dX10_failsBy_31 rfl rfl ?_
  refine g_aload_n C 0 0 o dX10_failsBy_32 rfl rfl ?_
  refine g_get C 10 ix_10 0 _ rfl rfl 14 (by decide) wm_409 rfl (.int v_bits) rfl dX10_failsBy_33 ?_
  refine g_iconst C (1 : Int32) dX10_failsBy_36 rfl ?_
  refine g_iadd C dX10_failsBy_37 ?_
  refine g_icmp_ne C 64 dX10_failsBy_38 (by decide) (fun c4 => ?_) (fun c4 => ?_)
  · have h := wp_f c4 h
    refine g_lv [2] rfl ?_
    exact H64   h
  have h := wp_t c4 h
  refine g_iload_n C 3 3 x3 dX10_failsBy_41 rfl rfl ?_
  refine g_aload_n C 0 0 o dX10_failsBy_42 rfl rfl ?_
  refine g_get C 10 ix_10 0 _ rfl rfl 15 (by decide) wm_410 rfl (.int v_parity) rfl dX10_failsBy_43 ?_
  refine g_iconst C (2 : Int32) dX10_failsBy_46 rfl ?_
  refine g_icmp_ne C 54 dX10_failsBy_47 (by decide) (fun c5 => ?_) (fun c5 => ?_)
  · have h := wp_f c5 h
    refine g_iconst C (0 : Int32) dX10_failsBy_54 rfl ?_
    refine g_lv [] rfl ?_
    exact H55  x3 (0 : Int32) h
  have h := wp_t c5 h
  refine g_iconst C (1 : Int32) dX10_failsBy_50 rfl ?_
  refine g_goto C 55 dX10_failsBy_51 (by decide) ?_
  refine g_lv [] rfl ?_
  exact H55  x3 (1 : Int32) h
abbrev rmX10_frameAt : Room := { frames := 2, cells := 0, slots := 0, locals := 46 }
def wX10_frameAt_195 (fu : Nat) (v_bits : Int32) (v_idle : Int32) (v_parity : Int32) (v_stops : Int32) (v_wide : Int32) (v_deep : (Nat → Int32)) (v_a1 : (Nat → Int32)) (x2 : Int32) (Q : Int32 → Int32 → Int32 → (Nat → Int32) → (Nat → Int32) → Prop) (K14 : Int32 → Int32 → Int32 → Int32 → Int32 → Int32 → (Nat → Int32) → (Nat → Int32) → Prop) (x3 : Int32) (x4 : Int32) (x6 : Int32) (k0 : Int32) (v_frames : Int32) (v_margin : Int32) (v_letters : (Nat → Int32)) (v_starts : (Nat → Int32)) : Prop := K14 x3 x4 k0 (x6 + (1 : Int32)) v_frames v_margin v_letters v_starts
def wX10_frameAt_169 (fu : Nat) (v_bits : Int32) (v_idle : Int32) (v_parity : Int32) (v_stops : Int32) (v_wide : Int32) (v_deep : (Nat → Int32)) (v_a1 : (Nat → Int32)) (x2 : Int32) (Q : Int32 → Int32 → Int32 → (Nat → Int32) → (Nat → Int32) → Prop) (K14 : Int32 → Int32 → Int32 → Int32 → Int32 → Int32 → (Nat → Int32) → (Nat → Int32) → Prop) (x4 : Int32) (x5 : Int32) (x6 : Int32) (x7 : Int32) (k0 : Int32) (k1 : Int32) (v_frames : Int32) (v_margin : Int32) (v_letters : (Nat → Int32)) (v_starts : (Nat → Int32)) : Prop := (∀ y20 : Int32, y20 = (k0 ||| k1) → (vp_in x7 360 ∧ (if x5 ≤ (v_deep (ix x7)) then wX10_frameAt_195 fu v_bits v_idle v_parity v_stops v_wide v_deep v_a1 x2 Q K14 y20 x4 x6 x5 v_frames v_margin v_letters v_starts else (vp_in x7 360 ∧ wX10_frameAt_195 fu v_bits v_idle v_parity v_stops v_wide v_deep v_a1 x2 Q K14 y20 x4 x6 (v_deep (ix x7)) v_frames v_margin v_letters v_starts))))
def wX10_frameAt_168 (fu : Nat) (v_bits : Int32) (v_idle : Int32) (v_parity : Int32) (v_stops : Int32) (v_wide : Int32) (v_deep : (Nat → Int32)) (v_a1 : (Nat → Int32)) (x2 : Int32) (Q : Int32 → Int32 → Int32 → (Nat → Int32) → (Nat → Int32) → Prop) (K14 : Int32 → Int32 → Int32 → Int32 → Int32 → Int32 → (Nat → Int32) → (Nat → Int32) → Prop) (x4 : Int32) (x5 : Int32) (x6 : Int32) (x7 : Int32) (k0 : Int32) (v_frames : Int32) (v_margin : Int32) (v_letters : (Nat → Int32)) (v_starts : (Nat → Int32)) : Prop := wX10_frameAt_169 fu v_bits v_idle v_parity v_stops v_wide v_deep v_a1 x2 Q K14 x4 x5 x6 x7 k0 (0 : Int32) v_frames v_margin v_letters v_starts
def wX10_frameAt_117 (fu : Nat) (v_bits : Int32) (v_idle : Int32) (v_parity : Int32) (v_stops : Int32) (v_wide : Int32) (v_deep : (Nat → Int32)) (v_a1 : (Nat → Int32)) (x2 : Int32) (Q : Int32 → Int32 → Int32 → (Nat → Int32) → (Nat → Int32) → Prop) (K14 : Int32 → Int32 → Int32 → Int32 → Int32 → Int32 → (Nat → Int32) → (Nat → Int32) → Prop) (x3 : Int32) (x5 : Int32) (x6 : Int32) (x7 : Int32) (x8 : Int32) (k0 : Int32) (v_frames : Int32) (v_margin : Int32) (v_letters : (Nat → Int32)) (v_starts : (Nat → Int32)) : Prop := wp_X10_failsBy fu v_bits v_parity x6 x8 k0 (fun (r15 : Int32) => (if r15 ≤ 0 then (if x8 = 0 then wX10_frameAt_168 fu v_bits v_idle v_parity v_stops v_wide v_deep v_a1 x2 Q K14 k0 x5 x6 x7 x3 v_frames v_margin v_letters v_starts else (if x6 ≤ 0 then wX10_frameAt_168 fu v_bits v_idle v_parity v_stops v_wide v_deep v_a1 x2 Q K14 k0 x5 x6 x7 x3 v_frames v_margin v_letters v_starts else (if v_bits < x6 then wX10_frameAt_168 fu v_bits v_idle v_parity v_stops v_wide v_deep v_a1 x2 Q K14 k0 x5 x6 x7 x3 v_frames v_margin v_letters v_starts else wX10_frameAt_169 fu v_bits v_idle v_parity v_stops v_wide v_deep v_a1 x2 Q K14 k0 x5 x6 x7 x3 (shl (1 : Int32) (x6 - (1 : Int32))) v_frames v_margin v_letters v_starts))) else Q r15 v_frames v_margin v_letters v_starts))
def wX10_frameAt_109 (fu : Nat) (v_bits : Int32) (v_idle : Int32) (v_parity : Int32) (v_stops : Int32) (v_wide : Int32) (v_deep : (Nat → Int32)) (v_a1 : (Nat → Int32)) (x2 : Int32) (Q : Int32 → Int32 → Int32 → (Nat → Int32) → (Nat → Int32) → Prop) (K14 : Int32 → Int32 → Int32 → Int32 → Int32 → Int32 → (Nat → Int32) → (Nat → Int32) → Prop) (x3 : Int32) (x5 : Int32) (x6 : Int32) (x7 : Int32) (x8 : Int32) (k0 : Int32) (k1 : Int32) (v_frames : Int32) (v_margin : Int32) (v_letters : (Nat → Int32)) (v_starts : (Nat → Int32)) : Prop := (if k0 = k1 then wX10_frameAt_117 fu v_bits v_idle v_parity v_stops v_wide v_deep v_a1 x2 Q K14 x3 x5 x6 x7 x8 (0 : Int32) v_frames v_margin v_letters v_starts else wX10_frameAt_117 fu v_bits v_idle v_parity v_stops v_wide v_deep v_a1 x2 Q K14 x3 x5 x6 x7 x8 (1 : Int32) v_frames v_margin v_letters v_starts)
def wX10_frameAt_108 (fu : Nat) (v_bits : Int32) (v_idle : Int32) (v_parity : Int32) (v_stops : Int32) (v_wide : Int32) (v_deep : (Nat → Int32)) (v_a1 : (Nat → Int32)) (x2 : Int32) (Q : Int32 → Int32 → Int32 → (Nat → Int32) → (Nat → Int32) → Prop) (K14 : Int32 → Int32 → Int32 → Int32 → Int32 → Int32 → (Nat → Int32) → (Nat → Int32) → Prop) (x3 : Int32) (x5 : Int32) (x6 : Int32) (x7 : Int32) (x8 : Int32) (k0 : Int32) (v_frames : Int32) (v_margin : Int32) (v_letters : (Nat → Int32)) (v_starts : (Nat → Int32)) : Prop := wX10_frameAt_109 fu v_bits v_idle v_parity v_stops v_wide v_deep v_a1 x2 Q K14 x3 x5 x6 x7 x8 k0 (0 : Int32) v_frames v_margin v_letters v_starts
def wX10_frameAt_100 (fu : Nat) (v_bits : Int32) (v_idle : Int32) (v_parity : Int32) (v_stops : Int32) (v_wide : Int32) (v_deep : (Nat → Int32)) (v_a1 : (Nat → Int32)) (x2 : Int32) (Q : Int32 → Int32 → Int32 → (Nat → Int32) → (Nat → Int32) → Prop) (K14 : Int32 → Int32 → Int32 → Int32 → Int32 → Int32 → (Nat → Int32) → (Nat → Int32) → Prop) (x3 : Int32) (x5 : Int32) (x6 : Int32) (x7 : Int32) (x8 : Int32) (k0 : Int32) (k1 : Int32) (k2 : Int32) (k3 : Int32) (v_frames : Int32) (v_margin : Int32) (v_letters : (Nat → Int32)) (v_starts : (Nat → Int32)) : Prop := (if (k2 + k3) < k1 then wX10_frameAt_108 fu v_bits v_idle v_parity v_stops v_wide v_deep v_a1 x2 Q K14 x3 x5 x6 x7 x8 k0 v_frames v_margin v_letters v_starts else wX10_frameAt_109 fu v_bits v_idle v_parity v_stops v_wide v_deep v_a1 x2 Q K14 x3 x5 x6 x7 x8 k0 (1 : Int32) v_frames v_margin v_letters v_starts)
def wX10_frameAt_68 (fu : Nat) (v_bits : Int32) (v_idle : Int32) (v_parity : Int32) (v_stops : Int32) (v_wide : Int32) (v_deep : (Nat → Int32)) (v_a1 : (Nat → Int32)) (x2 : Int32) (Q : Int32 → Int32 → Int32 → (Nat → Int32) → (Nat → Int32) → Prop) (K14 : Int32 → Int32 → Int32 → Int32 → Int32 → Int32 → (Nat → Int32) → (Nat → Int32) → Prop) (x3 : Int32) (x4 : Int32) (x5 : Int32) (x6 : Int32) (x7 : Int32) (k0 : Int32) (v_frames : Int32) (v_margin : Int32) (v_letters : (Nat → Int32)) (v_starts : (Nat → Int32)) : Prop := (if k0 = 0 then wX10_frameAt_108 fu v_bits v_idle v_parity v_stops v_wide v_deep v_a1 x2 Q K14 x3 x5 x6 x7 k0 x4 v_frames v_margin v_letters v_starts else (if x6 ≤ 0 then wX10_frameAt_108 fu v_bits v_idle v_parity v_stops v_wide v_deep v_a1 x2 Q K14 x3 x5 x6 x7 k0 x4 v_frames v_margin v_letters v_starts else (if v_parity ≤ 0 then wX10_frameAt_100 fu v_bits v_idle v_parity v_stops v_wide v_deep v_a1 x2 Q K14 x3 x5 x6 x7 k0 x4 x6 v_bits (0 : Int32) v_frames v_margin v_letters v_starts else wX10_frameAt_100 fu v_bits v_idle v_parity v_stops v_wide v_deep v_a1 x2 Q K14 x3 x5 x6 x7 k0 x4 x6 v_bits (1 : Int32) v_frames v_margin v_letters v_starts)))
def wX10_frameAt_14 (fu : Nat) (v_bits : Int32) (v_idle : Int32) (v_parity : Int32) (v_stops : Int32) (v_wide : Int32) (v_deep : (Nat → Int32)) (v_a1 : (Nat → Int32)) (x2 : Int32) (Q : Int32 → Int32 → Int32 → (Nat → Int32) → (Nat → Int32) → Prop) : Nat → Int32 → Int32 → Int32 → Int32 → Int32 → Int32 → (Nat → Int32) → (Nat → Int32) → Prop
  | 0, _, _, _, _, _, _, _, _ => False
  | n0 + 1, x3, x4, x5, x6, v_frames, v_margin, v_letters, v_starts => wp_X10_frameBits fu v_bits v_parity v_stops (fun (r1 : Int32) => (if r1 ≤ x6 then (vp_in v_frames 64 ∧ (vp_in v_frames 64 ∧ Q (0 : Int32) (v_frames + (1 : Int32)) x5 (upd v_letters (ix v_frames) x3) (upd v_starts (ix v_frames) x2))) else (∀ y5 : Int32, y5 = ((x2 + (v_wide * x6)) + (v_wide / (2 : Int32))) → wp_X10_isTick fu v_a1 y5 (fun (r6 : Int32) => (if r6 = 0 then Q (4 : Int32) v_frames v_margin v_letters v_starts else (vp_in y5 361 ∧ (if (v_a1 (ix y5)) = v_idle then wX10_frameAt_68 fu v_bits v_idle v_parity v_stops v_wide v_deep v_a1 x2 Q (wX10_frameAt_14 fu v_bits v_idle v_parity v_stops v_wide v_deep v_a1 x2 Q n0) x3 x4 x5 x6 y5 (1 : Int32) v_frames v_margin v_letters v_starts else wX10_frameAt_68 fu v_bits v_idle v_parity v_stops v_wide v_deep v_a1 x2 Q (wX10_frameAt_14 fu v_bits v_idle v_parity v_stops v_wide v_deep v_a1 x2 Q n0) x3 x4 x5 x6 y5 (0 : Int32) v_frames v_margin v_letters v_starts)))))))
def wp_X10_frameAt (fu : Nat) (v_bits : Int32) (v_idle : Int32) (v_parity : Int32) (v_stops : Int32) (v_wide : Int32) (v_deep : (Nat → Int32)) (v_a1 : (Nat → Int32)) (x2 : Int32) (v_frames : Int32) (v_margin : Int32) (v_letters : (Nat → Int32)) (v_starts : (Nat → Int32)) (Q : Int32 → Int32 → Int32 → (Nat → Int32) → (Nat → Int32) → Prop) : Prop := wX10_frameAt_14 fu v_bits v_idle v_parity v_stops v_wide v_deep v_a1 x2 Q fu (0 : Int32) (0 : Int32) v_margin (0 : Int32) v_frames v_margin v_letters v_starts
set_option maxHeartbeats 4000000 in
set_option maxRecDepth 100000 in
theorem c_X10_frameAt (l : Launch) (D : va_G) (cI cJ cZ cW : ClassId) (o o_text o_now o_trial o_diary o_kept o_isKept o_knownPlace o_knownLetter o_letters o_starts o_bestLetters o_deep o_worth o_readTicks o_a1 : Nat) (v_length : Int32) (v_acts : Int32) (v_next : Int32) (v_known : Int32) (v_seed : Int64) (v_wide : Int32) (v_bits : Int32) (v_parity : Int32) (v_stops : Int32) (v_idle : Int32) (v_frames : Int32) (v_failed : Int32) (v_failedAt : Int32) (v_margin : Int32) (v_bestFrames : Int32) (v_alike : Int32) (v_fitting : Int32) (v_readLevel : Int32) (v_readMany : Int32) (v_part : Int32) (v_ten : Int32) (v_deep : (Nat → Int32)) (v_letters : (Nat → Int32)) (v_starts : (Nat → Int32)) (v_a1 : (Nat → Int32)) (x2 : Int32) (fu : Nat) (Q : Int32 → Int32 → Int32 → (Nat → Int32) → (Nat → Int32) → Prop) (h : wp_X10_frameAt fu v_bits v_idle v_parity v_stops v_wide v_deep v_a1 x2 v_frames v_margin v_letters v_starts Q) : CtI l yX10_frameAt wkX10_frameAt rmX10_frameAt D (tys4 cI cJ cZ cW) [.ref o, .ref o_a1, .int x2] [(o, .inr (10, [.ref o_text, .int v_length, .ref o_now, .ref o_trial, .ref o_diary, .int v_acts, .int v_next, .ref o_kept, .ref o_isKept, .ref o_knownPlace, .ref o_knownLetter, .int v_known, .long v_seed, .int v_wide, .int v_bits, .int v_parity, .int v_stops, .int v_idle, .int v_frames, .int v_failed, .int v_failedAt, .int v_margin, .ref o_letters, .ref o_starts, .int v_bestFrames, .ref o_bestLetters, .int v_alike, .int v_fitting, .ref o_deep, .ref o_worth, .int v_readLevel, .int v_readMany, .ref o_readTicks, .int v_part, .int v_ten])), (o_deep, .inl (cI, 360, .inl v_deep)), (o_letters, .inl (cI, 64, .inl v_letters)), (o_starts, .inl (cI, 64, .inl v_starts)), (o_a1, .inl (cI, 361, .inl v_a1))] (fun (r : Int32) (u : Int32 × Int32 × (Nat → Int32) × (Nat → Int32)) => Q r u.1 u.2.1 u.2.2.1 u.2.2.2) (fun (u : Int32 × Int32 × (Nat → Int32) × (Nat → Int32)) => [(o, .inr (10, [.ref o_text, .int v_length, .ref o_now, .ref o_trial, .ref o_diary, .int v_acts, .int v_next, .ref o_kept, .ref o_isKept, .ref o_knownPlace, .ref o_knownLetter, .int v_known, .long v_seed, .int v_wide, .int v_bits, .int v_parity, .int v_stops, .int v_idle, .int u.1, .int v_failed, .int v_failedAt, .int u.2.1, .ref o_letters, .ref o_starts, .int v_bestFrames, .ref o_bestLetters, .int v_alike, .int v_fitting, .ref o_deep, .ref o_worth, .int v_readLevel, .int v_readMany, .ref o_readTicks, .int v_part, .int v_ten])), (o_deep, .inl (cI, 360, .inl v_deep)), (o_letters, .inl (cI, 64, .inl u.2.2.1)), (o_starts, .inl (cI, 64, .inl u.2.2.2)), (o_a1, .inl (cI, 361, .inl v_a1))]) := by
  refine CtI.of (S := Int32 × Int32 × (Nat → Int32) × (Nat → Int32)) (y := yX10_frameAt) (Tc := wkX10_frameAt) (rm := rmX10_frameAt) (D := D) (tys := tys4 cI cJ cZ cW) (av := [.ref o, .ref o_a1, .int x2]) (wc := [(o, .inr (10, [.ref o_text, .int v_length, .ref o_now, .ref o_trial, .ref o_diary, .int v_acts, .int v_next, .ref o_kept, .ref o_isKept, .ref o_knownPlace, .ref o_knownLetter, .int v_known, .long v_seed, .int v_wide, .int v_bits, .int v_parity, .int v_stops, .int v_idle, .int v_frames, .int v_failed, .int v_failedAt, .int v_margin, .ref o_letters, .ref o_starts, .int v_bestFrames, .ref o_bestLetters, .int v_alike, .int v_fitting, .ref o_deep, .ref o_worth, .int v_readLevel, .int v_readMany, .ref o_readTicks, .int v_part, .int v_ten])), (o_deep, .inl (cI, 360, .inl v_deep)), (o_letters, .inl (cI, 64, .inl v_letters)), (o_starts, .inl (cI, 64, .inl v_starts)), (o_a1, .inl (cI, 361, .inl v_a1))]) (post := (fun (r : Int32) (u : Int32 × Int32 × (Nat → Int32) × (Nat → Int32)) => Q r u.1 u.2.1 u.2.2.1 u.2.2.2)) (w1 := (fun (u : Int32 × Int32 × (Nat → Int32) × (Nat → Int32)) => [(o, .inr (10, [.ref o_text, .int v_length, .ref o_now, .ref o_trial, .ref o_diary, .int v_acts, .int v_next, .ref o_kept, .ref o_isKept, .ref o_knownPlace, .ref o_knownLetter, .int v_known, .long v_seed, .int v_wide, .int v_bits, .int v_parity, .int v_stops, .int v_idle, .int u.1, .int v_failed, .int v_failedAt, .int u.2.1, .ref o_letters, .ref o_starts, .int v_bestFrames, .ref o_bestLetters, .int v_alike, .int v_fitting, .ref o_deep, .ref o_worth, .int v_readLevel, .int v_readMany, .ref o_readTicks, .int v_part, .int v_ten])), (o_deep, .inl (cI, 360, .inl v_deep)), (o_letters, .inl (cI, 64, .inl u.2.2.1)), (o_starts, .inl (cI, 64, .inl u.2.2.2)), (o_a1, .inl (cI, 361, .inl v_a1))])) (cc := cX10_frameAt) (maxL := 10) RX10 rfl (by decide +kernel) rfl rfl [(0, .ref o), (1, .ref o_a1), (2, .int x2)] rfl ?_
  intro p e s m args below meth c A Qm C hret
  have H14 : ∀ (n14 : Nat) (x3 : Int32) (x4 : Int32) (x5 : Int32) (x6 : Int32) (v_frames : Int32) (v_margin : Int32) (v_letters : (Nat → Int32)) (v_starts : (Nat → Int32)), wX10_frameAt_14 fu v_bits v_idle v_parity v_stops v_wide v_deep v_a1 x2 Q n14 x3 x4 x5 x6 v_frames v_margin v_letters v_starts → G p l e rmX10_frameAt s m args below meth c D A 10 0 0 Qm [(o, .inr (10, [.ref o_text, .int v_length, .ref o_now, .ref o_trial, .ref o_diary, .int v_acts, .int v_next, .ref o_kept, .ref o_isKept, .ref o_knownPlace, .ref o_knownLetter, .int v_known, .long v_seed, .int v_wide, .int v_bits, .int v_parity, .int v_stops, .int v_idle, .int v_frames, .int v_failed, .int v_failedAt, .int v_margin, .ref o_letters, .ref o_starts, .int v_bestFrames, .ref o_bestLetters, .int v_alike, .int v_fitting, .ref o_deep, .ref o_worth, .int v_readLevel, .int v_readMany, .ref o_readTicks, .int v_part, .int v_ten])), (o_deep, .inl (cI, 360, .inl v_deep)), (o_letters, .inl (cI, 64, .inl v_letters)), (o_starts, .inl (cI, 64, .inl v_starts)), (o_a1, .inl (cI, 361, .inl v_a1))] [(0, .ref o), (1, .ref o_a1), (2, .int x2), (3, .int x3), (4, .int x4), (5, .int x5), (6, .int x6)] 14 [] := by
    intro n14
    induction n14 with
    | zero => intro x3 x4 x5 x6 v_frames v_margin v_letters v_starts h; exact False.elim h
    | succ n14 ih14 =>
      have H195 : ∀ (x3 : Int32) (x4 : Int32) (x6 : Int32) (k0 : Int32) (v_frames : Int32) (v_margin : Int32) (v_letters : (Nat → Int32)) (v_starts : (Nat → Int32)), wX10_frameAt_195 fu v_bits v_idle v_parity v_stops v_wide v_deep v_a1 x2 Q (wX10_frameAt_14 fu v_bits v_idle v_parity v_stops v_wide v_deep v_a1 x2 Q n14) x3 x4 x6 k0 v_frames v_margin v_letters v_starts → G p l e rmX10_frameAt s m args below meth c D A 10 0 0 Qm [(o, .inr (10, [.ref o_text, .int v_length, .ref o_now, .ref o_trial, .ref o_diary, .int v_acts, .int v_next, .ref o_kept, .ref o_isKept, .ref o_knownPlace, .ref o_knownLetter, .int v_known, .long v_seed, .int v_wide, .int v_bits, .int v_parity, .int v_stops, .int v_idle, .int v_frames, .int v_failed, .int v_failedAt, .int v_margin, .ref o_letters, .ref o_starts, .int v_bestFrames, .ref o_bestLetters, .int v_alike, .int v_fitting, .ref o_deep, .ref o_worth, .int v_readLevel, .int v_readMany, .ref o_readTicks, .int v_part, .int v_ten])), (o_deep, .inl (cI, 360, .inl v_deep)), (o_letters, .inl (cI, 64, .inl v_letters)), (o_starts, .inl (cI, 64, .inl v_starts)), (o_a1, .inl (cI, 361, .inl v_a1))] [(0, .ref o), (1, .ref o_a1), (2, .int x2), (3, .int x3), (4, .int x4), (6, .int x6)] 195 [.int k0] := by
        intro x3 x4 x6 k0 v_frames v_margin v_letters v_starts h
        unfold wX10_frameAt_195 at h
        refine g_istore C [(5, .int k0), (0, .ref o), (1, .ref o_a1), (2, .int x2), (3, .int x3), (4, .int x4), (6, .int x6)] dX10_frameAt_195 (by decide) rfl ?_
        refine g_iinc C 6 x6 (x6 + (1 : Int32)) [(6, .int (x6 + (1 : Int32))), (5, .int k0), (0, .ref o), (1, .ref o_a1), (2, .int x2), (3, .int x3), (4, .int x4)] dX10_frameAt_197 rfl rfl (by decide) rfl ?_
        refine g_goto C 14 dX10_frameAt_200 (by decide) ?_
        refine g_lv [2, 3, 4, 5, 6, 1, 0] rfl ?_
        exact ih14  x3 x4 k0 (x6 + (1 : Int32)) v_frames v_margin v_letters v_starts h
      have H169 : ∀ (x4 : Int32) (x5 : Int32) (x6 : Int32) (x7 : Int32) (k0 : Int32) (k1 : Int32) (v_frames : Int32) (v_margin : Int32) (v_letters : (Nat → Int32)) (v_starts : (Nat → Int32)), wX10_frameAt_169 fu v_bits v_idle v_parity v_stops v_wide v_deep v_a1 x2 Q (wX10_frameAt_14 fu v_bits v_idle v_parity v_stops v_wide v_deep v_a1 x2 Q n14) x4 x5 x6 x7 k0 k1 v_frames v_margin v_letters v_starts → G p l e rmX10_frameAt s m args below meth c D A 10 0 0 Qm [(o, .inr (10, [.ref o_text, .int v_length, .ref o_now, .ref o_trial, .ref o_diary, .int v_acts, .int v_next, .ref o_kept, .ref o_isKept, .ref o_knownPlace, .ref o_knownLetter, .int v_known, .long v_seed, .int v_wide, .int v_bits, .int v_parity, .int v_stops, .int v_idle, .int v_frames, .int v_failed, .int v_failedAt, .int v_margin, .ref o_letters, .ref o_starts, .int v_bestFrames, .ref o_bestLetters, .int v_alike, .int v_fitting, .ref o_deep, .ref o_worth, .int v_readLevel, .int v_readMany, .ref o_readTicks, .int v_part, .int v_ten])), (o_deep, .inl (cI, 360, .inl v_deep)), (o_letters, .inl (cI, 64, .inl v_letters)), (o_starts, .inl (cI, 64, .inl v_starts)), (o_a1, .inl (cI, 361, .inl v_a1))] [(0, .ref o), (1, .ref o_a1), (2, .int x2), (4, .int x4), (5, .int x5), (6, .int x6), (7, .int x7)] 169 [.int k1, .int k0] := by
        intro x4 x5 x6 x7 k0 k1 v_frames v_margin v_letters v_starts h
        unfold wX10_frameAt_169 at h
        refine g_ior C dX10_frameAt_169 ?_
        refine g_topi (fun y20 ey20 => ?_)
        have h := h y20 ey20
        refine g_istore_n C [(3, .int y20), (0, .ref o), (1, .ref o_a1), (2, .int x2), (4, .int x4), (5, .int x5), (6, .int x6), (7, .int x7)] dX10_frameAt_170 rfl (by decide) rfl ?_
        refine g_aload_n C 0 1 o dX10_frameAt_171 rfl rfl ?_
        refine g_get C 10 ix_10 0 _ rfl rfl 28 (by decide) wm_138 rfl (.ref o_deep) rfl dX10_frameAt_172 ?_
        refine g_iload C 7 7 x7 dX10_frameAt_175 rfl ?_
        obtain ⟨hi21, h⟩ := h
        refine g_iald C 1 0 cI 360 v_deep rfl rfl hi21 dX10_frameAt_177 ?_
        refine g_iload C 5 5 x5 dX10_frameAt_178 rfl ?_
        refine g_icmp_ge C 193 dX10_frameAt_180 (by decide) (fun c22 => ?_) (fun c22 => ?_)
        · have h := wp_t c22 h
          refine g_iload C 5 5 x5 dX10_frameAt_193 rfl ?_
          refine g_lv [1, 2, 3, 0, 4, 6] rfl ?_
          exact H195  y20 x4 x6 x5 v_frames v_margin v_letters v_starts h
        have h := wp_f c22 h
        refine g_aload_n C 0 1 o dX10_frameAt_183 rfl rfl ?_
        refine g_get C 10 ix_10 0 _ rfl rfl 28 (by decide) wm_138 rfl (.ref o_deep) rfl dX10_frameAt_184 ?_
        refine g_iload C 7 7 x7 dX10_frameAt_187 rfl ?_
        obtain ⟨hi23, h⟩ := h
        refine g_iald C 1 0 cI 360 v_deep rfl rfl hi23 dX10_frameAt_189 ?_
        refine g_goto C 195 dX10_frameAt_190 (by decide) ?_
        refine g_lv [1, 2, 3, 0, 4, 6] rfl ?_
        exact H195  y20 x4 x6 (v_deep (ix x7)) v_frames v_margin v_letters v_starts h
      have H168 : ∀ (x4 : Int32) (x5 : Int32) (x6 : Int32) (x7 : Int32) (k0 : Int32) (v_frames : Int32) (v_margin : Int32) (v_letters : (Nat → Int32)) (v_starts : (Nat → Int32)), wX10_frameAt_168 fu v_bits v_idle v_parity v_stops v_wide v_deep v_a1 x2 Q (wX10_frameAt_14 fu v_bits v_idle v_parity v_stops v_wide v_deep v_a1 x2 Q n14) x4 x5 x6 x7 k0 v_frames v_margin v_letters v_starts → G p l e rmX10_frameAt s m args below meth c D A 10 0 0 Qm [(o, .inr (10, [.ref o_text, .int v_length, .ref o_now, .ref o_trial, .ref o_diary, .int v_acts, .int v_next, .ref o_kept, .ref o_isKept, .ref o_knownPlace, .ref o_knownLetter, .int v_known, .long v_seed, .int v_wide, .int v_bits, .int v_parity, .int v_stops, .int v_idle, .int v_frames, .int v_failed, .int v_failedAt, .int v_margin, .ref o_letters, .ref o_starts, .int v_bestFrames, .ref o_bestLetters, .int v_alike, .int v_fitting, .ref o_deep, .ref o_worth, .int v_readLevel, .int v_readMany, .ref o_readTicks, .int v_part, .int v_ten])), (o_deep, .inl (cI, 360, .inl v_deep)), (o_letters, .inl (cI, 64, .inl v_letters)), (o_starts, .inl (cI, 64, .inl v_starts)), (o_a1, .inl (cI, 361, .inl v_a1))] [(0, .ref o), (1, .ref o_a1), (2, .int x2), (4, .int x4), (5, .int x5), (6, .int x6), (7, .int x7)] 168 [.int k0] := by
        intro x4 x5 x6 x7 k0 v_frames v_margin v_letters v_starts h
        unfold wX10_frameAt_168 at h
        refine g_iconst C (0 : Int32) dX10_frameAt_168 rfl ?_
        refine g_lv [0, 1, 2, 3, 4, 5, 6] rfl ?_
        exact H169  x4 x5 x6 x7 k0 (0 : Int32) v_frames v_margin v_letters v_starts h
      have H117 : ∀ (x3 : Int32) (x5 : Int32) (x6 : Int32) (x7 : Int32) (x8 : Int32) (k0 : Int32) (v_frames : Int32) (v_margin : Int32) (v_letters : (Nat → Int32)) (v_starts : (Nat → Int32)), wX10_frameAt_117 fu v_bits v_idle v_parity v_stops v_wide v_deep v_a1 x2 Q (wX10_frameAt_14 fu v_bits v_idle v_parity v_stops v_wide v_deep v_a1 x2 Q n14) x3 x5 x6 x7 x8 k0 v_frames v_margin v_letters v_starts → G p l e rmX10_frameAt s m args below meth c D A 10 0 0 Qm [(o, .inr (10, [.ref o_text, .int v_length, .ref o_now, .ref o_trial, .ref o_diary, .int v_acts, .int v_next, .ref o_kept, .ref o_isKept, .ref o_knownPlace, .ref o_knownLetter, .int v_known, .long v_seed, .int v_wide, .int v_bits, .int v_parity, .int v_stops, .int v_idle, .int v_frames, .int v_failed, .int v_failedAt, .int v_margin, .ref o_letters, .ref o_starts, .int v_bestFrames, .ref o_bestLetters, .int v_alike, .int v_fitting, .ref o_deep, .ref o_worth, .int v_readLevel, .int v_readMany, .ref o_readTicks, .int v_part, .int v_ten])), (o_deep, .inl (cI, 360, .inl v_deep)), (o_letters, .inl (cI, 64, .inl v_letters)), (o_starts, .inl (cI, 64, .inl v_starts)), (o_a1, .inl (cI, 361, .inl v_a1))] [(0, .ref o), (1, .ref o_a1), (2, .int x2), (3, .int x3), (5, .int x5), (6, .int x6), (7, .int x7), (8, .int x8)] 117 [.int k0] := by
        intro x3 x5 x6 x7 x8 k0 v_frames v_margin v_letters v_starts h
        unfold wX10_frameAt_117 at h
        refine g_istore C [(4, .int k0), (0, .ref o), (1, .ref o_a1), (2, .int x2), (3, .int x3), (5, .int x5), (6, .int x6), (7, .int x7), (8, .int x8)] dX10_frameAt_117 (by decide) rfl ?_
        refine g_aload_n C 0 1 o dX10_frameAt_119 rfl rfl ?_
        refine g_iload C 6 6 x6 dX10_frameAt_120 rfl ?_
        refine g_iload C 8 8 x8 dX10_frameAt_122 rfl ?_
        refine g_iload C 4 0 k0 dX10_frameAt_124 rfl ?_
        refine g_callVi0 (As := [.int x6, .int x8, .int k0]) (rest := []) C (c_X10_failsBy l D cI cJ cZ cW o o_text o_now o_trial o_diary o_kept o_isKept o_knownPlace o_knownLetter o_letters o_starts o_bestLetters o_deep o_worth o_readTicks v_length v_acts v_next v_known v_seed v_wide v_bits v_parity v_stops v_idle v_frames v_failed v_failedAt v_margin v_bestFrames v_alike v_fitting v_readLevel v_readMany v_part v_ten x6 x8 k0 fu _ h) 3 gd_X10_121 rfl rfl rfl (by decide +kernel) ⟨Nat.le_of_ble_eq_true rfl, Nat.le_of_ble_eq_true rfl⟩ ⟨Nat.le_of_ble_eq_true rfl, Nat.le_of_ble_eq_true rfl⟩ 10 0 rfl rfl rfl rfl (Nat.le_of_ble_eq_true rfl) [0] rfl rfl dX10_frameAt_126 (fun r15 h => ?_)
        refine g_istore C [(9, .int r15), (4, .int k0), (0, .ref o), (1, .ref o_a1), (2, .int x2), (3, .int x3), (5, .int x5), (6, .int x6), (7, .int x7), (8, .int x8)] dX10_frameAt_129 (by decide) rfl ?_
        refine g_iload C 9 0 r15 dX10_frameAt_131 rfl ?_
        refine g_if_le C 139 dX10_frameAt_133 (by decide) (fun c16 => ?_) (fun c16 => ?_)
        rotate_left
        · have h := wp_f c16 h
          refine g_iload C 9 0 r15 dX10_frameAt_136 rfl ?_
          exact hret _ (v_frames, v_margin, v_letters, v_starts) _ _ _ dX10_frameAt_138 h rfl
        have h := wp_t c16 h
        refine g_iload_n C 3 5 x3 dX10_frameAt_139 rfl rfl ?_
        refine g_iload C 8 9 x8 dX10_frameAt_140 rfl ?_
        refine g_if_eq C 168 dX10_frameAt_142 (by decide) (fun c17 => ?_) (fun c17 => ?_)
        · have h := wp_t c17 h
          refine g_lv [2, 3, 4, 1, 6, 7, 8] rfl ?_
          exact H168  k0 x5 x6 x7 x3 v_frames v_margin v_letters v_starts h
        have h := wp_f c17 h
        refine g_iload C 6 7 x6 dX10_frameAt_145 rfl ?_
        refine g_if_le C 168 dX10_frameAt_147 (by decide) (fun c18 => ?_) (fun c18 => ?_)
        · have h := wp_t c18 h
          refine g_lv [2, 3, 4, 1, 6, 7, 8] rfl ?_
          exact H168  k0 x5 x6 x7 x3 v_frames v_margin v_letters v_starts h
        have h := wp_f c18 h
        refine g_iload C 6 7 x6 dX10_frameAt_150 rfl ?_
        refine g_aload_n C 0 2 o dX10_frameAt_152 rfl rfl ?_
        refine g_get C 10 ix_10 0 _ rfl rfl 14 (by decide) wm_409 rfl (.int v_bits) rfl dX10_frameAt_153 ?_
        refine g_icmp_gt C 168 dX10_frameAt_156 (by decide) (fun c19 => ?_) (fun c19 => ?_)
        · have h := wp_t c19 h
          refine g_lv [2, 3, 4, 1, 6, 7, 8] rfl ?_
          exact H168  k0 x5 x6 x7 x3 v_frames v_margin v_letters v_starts h
        have h := wp_f c19 h
        refine g_iconst C (1 : Int32) dX10_frameAt_159 rfl ?_
        refine g_iload C 6 7 x6 dX10_frameAt_160 rfl ?_
        refine g_iconst C (1 : Int32) dX10_frameAt_162 rfl ?_
        refine g_isub C dX10_frameAt_163 ?_
        refine g_ishl C dX10_frameAt_164 ?_
        refine g_goto C 169 dX10_frameAt_165 (by decide) ?_
        refine g_lv [2, 3, 4, 1, 6, 7, 8] rfl ?_
        exact H169  k0 x5 x6 x7 x3 (shl (1 : Int32) (x6 - (1 : Int32))) v_frames v_margin v_letters v_starts h
      have H109 : ∀ (x3 : Int32) (x5 : Int32) (x6 : Int32) (x7 : Int32) (x8 : Int32) (k0 : Int32) (k1 : Int32) (v_frames : Int32) (v_margin : Int32) (v_letters : (Nat → Int32)) (v_starts : (Nat → Int32)), wX10_frameAt_109 fu v_bits v_idle v_parity v_stops v_wide v_deep v_a1 x2 Q (wX10_frameAt_14 fu v_bits v_idle v_parity v_stops v_wide v_deep v_a1 x2 Q n14) x3 x5 x6 x7 x8 k0 k1 v_frames v_margin v_letters v_starts → G p l e rmX10_frameAt s m args below meth c D A 10 0 0 Qm [(o, .inr (10, [.ref o_text, .int v_length, .ref o_now, .ref o_trial, .ref o_diary, .int v_acts, .int v_next, .ref o_kept, .ref o_isKept, .ref o_knownPlace, .ref o_knownLetter, .int v_known, .long v_seed, .int v_wide, .int v_bits, .int v_parity, .int v_stops, .int v_idle, .int v_frames, .int v_failed, .int v_failedAt, .int v_margin, .ref o_letters, .ref o_starts, .int v_bestFrames, .ref o_bestLetters, .int v_alike, .int v_fitting, .ref o_deep, .ref o_worth, .int v_readLevel, .int v_readMany, .ref o_readTicks, .int v_part, .int v_ten])), (o_deep, .inl (cI, 360, .inl v_deep)), (o_letters, .inl (cI, 64, .inl v_letters)), (o_starts, .inl (cI, 64, .inl v_starts)), (o_a1, .inl (cI, 361, .inl v_a1))] [(0, .ref o), (1, .ref o_a1), (2, .int x2), (3, .int x3), (5, .int x5), (6, .int x6), (7, .int x7), (8, .int x8)] 109 [.int k1, .int k0] := by
        intro x3 x5 x6 x7 x8 k0 k1 v_frames v_margin v_letters v_starts h
        unfold wX10_frameAt_109 at h
        refine g_icmp_eq C 116 dX10_frameAt_109 (by decide) (fun c14 => ?_) (fun c14 => ?_)
        · have h := wp_t c14 h
          refine g_iconst C (0 : Int32) dX10_frameAt_116 rfl ?_
          refine g_lv [0, 1, 2, 3, 4, 5, 6, 7] rfl ?_
          exact H117  x3 x5 x6 x7 x8 (0 : Int32) v_frames v_margin v_letters v_starts h
        have h := wp_f c14 h
        refine g_iconst C (1 : Int32) dX10_frameAt_112 rfl ?_
        refine g_goto C 117 dX10_frameAt_113 (by decide) ?_
        refine g_lv [0, 1, 2, 3, 4, 5, 6, 7] rfl ?_
        exact H117  x3 x5 x6 x7 x8 (1 : Int32) v_frames v_margin v_letters v_starts h
      have H108 : ∀ (x3 : Int32) (x5 : Int32) (x6 : Int32) (x7 : Int32) (x8 : Int32) (k0 : Int32) (v_frames : Int32) (v_margin : Int32) (v_letters : (Nat → Int32)) (v_starts : (Nat → Int32)), wX10_frameAt_108 fu v_bits v_idle v_parity v_stops v_wide v_deep v_a1 x2 Q (wX10_frameAt_14 fu v_bits v_idle v_parity v_stops v_wide v_deep v_a1 x2 Q n14) x3 x5 x6 x7 x8 k0 v_frames v_margin v_letters v_starts → G p l e rmX10_frameAt s m args below meth c D A 10 0 0 Qm [(o, .inr (10, [.ref o_text, .int v_length, .ref o_now, .ref o_trial, .ref o_diary, .int v_acts, .int v_next, .ref o_kept, .ref o_isKept, .ref o_knownPlace, .ref o_knownLetter, .int v_known, .long v_seed, .int v_wide, .int v_bits, .int v_parity, .int v_stops, .int v_idle, .int v_frames, .int v_failed, .int v_failedAt, .int v_margin, .ref o_letters, .ref o_starts, .int v_bestFrames, .ref o_bestLetters, .int v_alike, .int v_fitting, .ref o_deep, .ref o_worth, .int v_readLevel, .int v_readMany, .ref o_readTicks, .int v_part, .int v_ten])), (o_deep, .inl (cI, 360, .inl v_deep)), (o_letters, .inl (cI, 64, .inl v_letters)), (o_starts, .inl (cI, 64, .inl v_starts)), (o_a1, .inl (cI, 361, .inl v_a1))] [(0, .ref o), (1, .ref o_a1), (2, .int x2), (3, .int x3), (5, .int x5), (6, .int x6), (7, .int x7), (8, .int x8)] 108 [.int k0] := by
        intro x3 x5 x6 x7 x8 k0 v_frames v_margin v_letters v_starts h
        unfold wX10_frameAt_108 at h
        refine g_iconst C (0 : Int32) dX10_frameAt_108 rfl ?_
        refine g_lv [0, 1, 2, 3, 4, 5, 6, 7] rfl ?_
        exact H109  x3 x5 x6 x7 x8 k0 (0 : Int32) v_frames v_margin v_letters v_starts h
      have H100 : ∀ (x3 : Int32) (x5 : Int32) (x6 : Int32) (x7 : Int32) (x8 : Int32) (k0 : Int32) (k1 : Int32) (k2 : Int32) (k3 : Int32) (v_frames : Int32) (v_margin : Int32) (v_letters : (Nat → Int32)) (v_starts : (Nat → Int32)), wX10_frameAt_100 fu v_bits v_idle v_parity v_stops v_wide v_deep v_a1 x2 Q (wX10_frameAt_14 fu v_bits v_idle v_parity v_stops v_wide v_deep v_a1 x2 Q n14) x3 x5 x6 x7 x8 k0 k1 k2 k3 v_frames v_margin v_letters v_starts → G p l e rmX10_frameAt s m args below meth c D A 10 0 0 Qm [(o, .inr (10, [.ref o_text, .int v_length, .ref o_now, .ref o_trial, .ref o_diary, .int v_acts, .int v_next, .ref o_kept, .ref o_isKept, .ref o_knownPlace, .ref o_knownLetter, .int v_known, .long v_seed, .int v_wide, .int v_bits, .int v_parity, .int v_stops, .int v_idle, .int v_frames, .int v_failed, .int v_failedAt, .int v_margin, .ref o_letters, .ref o_starts, .int v_bestFrames, .ref o_bestLetters, .int v_alike, .int v_fitting, .ref o_deep, .ref o_worth, .int v_readLevel, .int v_readMany, .ref o_readTicks, .int v_part, .int v_ten])), (o_deep, .inl (cI, 360, .inl v_deep)), (o_letters, .inl (cI, 64, .inl v_letters)), (o_starts, .inl (cI, 64, .inl v_starts)), (o_a1, .inl (cI, 361, .inl v_a1))] [(0, .ref o), (1, .ref o_a1), (2, .int x2), (3, .int x3), (5, .int x5), (6, .int x6), (7, .int x7), (8, .int x8)] 100 [.int k3, .int k2, .int k1, .int k0] := by
        intro x3 x5 x6 x7 x8 k0 k1 k2 k3 v_frames v_margin v_letters v_starts h
        unfold wX10_frameAt_100 at h
        refine g_iadd C dX10_frameAt_100 ?_
        refine g_icmp_gt C 108 dX10_frameAt_101 (by decide) (fun c13 => ?_) (fun c13 => ?_)
        · have h := wp_t c13 h
          refine g_lv [0, 1, 2, 3, 4, 5, 6, 7] rfl ?_
          exact H108  x3 x5 x6 x7 x8 k0 v_frames v_margin v_letters v_starts h
        have h := wp_f c13 h
        refine g_iconst C (1 : Int32) dX10_frameAt_104 rfl ?_
        refine g_goto C 109 dX10_frameAt_105 (by decide) ?_
        refine g_lv [0, 1, 2, 3, 4, 5, 6, 7] rfl ?_
        exact H109  x3 x5 x6 x7 x8 k0 (1 : Int32) v_frames v_margin v_letters v_starts h
      have H68 : ∀ (x3 : Int32) (x4 : Int32) (x5 : Int32) (x6 : Int32) (x7 : Int32) (k0 : Int32) (v_frames : Int32) (v_margin : Int32) (v_letters : (Nat → Int32)) (v_starts : (Nat → Int32)), wX10_frameAt_68 fu v_bits v_idle v_parity v_stops v_wide v_deep v_a1 x2 Q (wX10_frameAt_14 fu v_bits v_idle v_parity v_stops v_wide v_deep v_a1 x2 Q n14) x3 x4 x5 x6 x7 k0 v_frames v_margin v_letters v_starts → G p l e rmX10_frameAt s m args below meth c D A 10 0 0 Qm [(o, .inr (10, [.ref o_text, .int v_length, .ref o_now, .ref o_trial, .ref o_diary, .int v_acts, .int v_next, .ref o_kept, .ref o_isKept, .ref o_knownPlace, .ref o_knownLetter, .int v_known, .long v_seed, .int v_wide, .int v_bits, .int v_parity, .int v_stops, .int v_idle, .int v_frames, .int v_failed, .int v_failedAt, .int v_margin, .ref o_letters, .ref o_starts, .int v_bestFrames, .ref o_bestLetters, .int v_alike, .int v_fitting, .ref o_deep, .ref o_worth, .int v_readLevel, .int v_readMany, .ref o_readTicks, .int v_part, .int v_ten])), (o_deep, .inl (cI, 360, .inl v_deep)), (o_letters, .inl (cI, 64, .inl v_letters)), (o_starts, .inl (cI, 64, .inl v_starts)), (o_a1, .inl (cI, 361, .inl v_a1))] [(0, .ref o), (1, .ref o_a1), (2, .int x2), (3, .int x3), (4, .int x4), (5, .int x5), (6, .int x6), (7, .int x7)] 68 [.int k0] := by
        intro x3 x4 x5 x6 x7 k0 v_frames v_margin v_letters v_starts h
        unfold wX10_frameAt_68 at h
        refine g_istore C [(8, .int k0), (0, .ref o), (1, .ref o_a1), (2, .int x2), (3, .int x3), (4, .int x4), (5, .int x5), (6, .int x6), (7, .int x7)] dX10_frameAt_68 (by decide) rfl ?_
        refine g_iload C 4 5 x4 dX10_frameAt_70 rfl ?_
        refine g_iload C 8 0 k0 dX10_frameAt_72 rfl ?_
        refine g_if_eq C 108 dX10_frameAt_74 (by decide) (fun c10 => ?_) (fun c10 => ?_)
        · have h := wp_t c10 h
          refine g_lv [1, 2, 3, 4, 6, 7, 8, 0] rfl ?_
          exact H108  x3 x5 x6 x7 k0 x4 v_frames v_margin v_letters v_starts h
        have h := wp_f c10 h
        refine g_iload C 6 7 x6 dX10_frameAt_77 rfl ?_
        refine g_if_le C 108 dX10_frameAt_79 (by decide) (fun c11 => ?_) (fun c11 => ?_)
        · have h := wp_t c11 h
          refine g_lv [1, 2, 3, 4, 6, 7, 8, 0] rfl ?_
          exact H108  x3 x5 x6 x7 k0 x4 v_frames v_margin v_letters v_starts h
        have h := wp_f c11 h
        refine g_iload C 6 7 x6 dX10_frameAt_82 rfl ?_
        refine g_aload_n C 0 1 o dX10_frameAt_84 rfl rfl ?_
        refine g_get C 10 ix_10 0 _ rfl rfl 14 (by decide) wm_409 rfl (.int v_bits) rfl dX10_frameAt_85 ?_
        refine g_aload_n C 0 1 o dX10_frameAt_88 rfl rfl ?_
        refine g_get C 10 ix_10 0 _ rfl rfl 15 (by decide) wm_410 rfl (.int v_parity) rfl dX10_frameAt_89 ?_
        refine g_if_le C 99 dX10_frameAt_92 (by decide) (fun c12 => ?_) (fun c12 => ?_)
        · have h := wp_t c12 h
          refine g_iconst C (0 : Int32) dX10_frameAt_99 rfl ?_
          refine g_lv [1, 2, 3, 4, 6, 7, 8, 0] rfl ?_
          exact H100  x3 x5 x6 x7 k0 x4 x6 v_bits (0 : Int32) v_frames v_margin v_letters v_starts h
        have h := wp_f c12 h
        refine g_iconst C (1 : Int32) dX10_frameAt_95 rfl ?_
        refine g_goto C 100 dX10_frameAt_96 (by decide) ?_
        refine g_lv [1, 2, 3, 4, 6, 7, 8, 0] rfl ?_
        exact H100  x3 x5 x6 x7 k0 x4 x6 v_bits (1 : Int32) v_frames v_margin v_letters v_starts h
      intro x3 x4 x5 x6 v_frames v_margin v_letters v_starts h
      unfold wX10_frameAt_14 at h
      refine g_iload C 6 6 x6 dX10_frameAt_14 rfl ?_
      refine g_aload_n C 0 0 o dX10_frameAt_16 rfl rfl ?_
      refine g_callVi0 (As := []) (rest := [.int x6]) C (c_X10_frameBits l D cI cJ cZ cW o o_text o_now o_trial o_diary o_kept o_isKept o_knownPlace o_knownLetter o_letters o_starts o_bestLetters o_deep o_worth o_readTicks v_length v_acts v_next v_known v_seed v_wide v_bits v_parity v_stops v_idle v_frames v_failed v_failedAt v_margin v_bestFrames v_alike v_fitting v_readLevel v_readMany v_part v_ten fu _ h) 0 gd_X10_114 rfl rfl rfl (by decide +kernel) ⟨Nat.le_of_ble_eq_true rfl, Nat.le_of_ble_eq_true rfl⟩ ⟨Nat.le_of_ble_eq_true rfl, Nat.le_of_ble_eq_true rfl⟩ 10 0 rfl rfl rfl rfl (Nat.le_of_ble_eq_true rfl) [0] rfl rfl dX10_frameAt_17 (fun r1 h => ?_)
      refine g_icmp_ge C 203 dX10_frameAt_20 (by decide) (fun c2 => ?_) (fun c2 => ?_)
      · have h := wp_t c2 h
        refine g_aload_n C 0 0 o dX10_frameAt_203 rfl rfl ?_
        refine g_iload C 5 5 x5 dX10_frameAt_204 rfl ?_
        refine g_put C 10 ix_10 0 _ rfl rfl 21 (by decide) wm_395 rfl tyX10 tyX10_ok nmX10 rfl rfl rfl (Nat.le_of_ble_eq_true rfl) dX10_frameAt_206 [(o, .inr (10, [.ref o_text, .int v_length, .ref o_now, .ref o_trial, .ref o_diary, .int v_acts, .int v_next, .ref o_kept, .ref o_isKept, .ref o_knownPlace, .ref o_knownLetter, .int v_known, .long v_seed, .int v_wide, .int v_bits, .int v_parity, .int v_stops, .int v_idle, .int v_frames, .int v_failed, .int v_failedAt, .int x5, .ref o_letters, .ref o_starts, .int v_bestFrames, .ref o_bestLetters, .int v_alike, .int v_fitting, .ref o_deep, .ref o_worth, .int v_readLevel, .int v_readMany, .ref o_readTicks, .int v_part, .int v_ten])), (o_deep, .inl (cI, 360, .inl v_deep)), (o_letters, .inl (cI, 64, .inl v_letters)), (o_starts, .inl (cI, 64, .inl v_starts)), (o_a1, .inl (cI, 361, .inl v_a1))] rfl ?_
        refine g_aload_n C 0 0 o dX10_frameAt_209 rfl rfl ?_
        refine g_get C 10 ix_10 0 _ rfl rfl 22 (by decide) wm_135 rfl (.ref o_letters) rfl dX10_frameAt_210 ?_
        refine g_aload_n C 0 0 o dX10_frameAt_213 rfl rfl ?_
        refine g_get C 10 ix_10 0 _ rfl rfl 18 (by decide) wm_396 rfl (.int v_frames) rfl dX10_frameAt_214 ?_
        refine g_iload_n C 3 3 x3 dX10_frameAt_217 rfl rfl ?_
        obtain ⟨hi3, h⟩ := h
        refine g_iast C 2 0 cI 64 v_letters rfl rfl hi3 dX10_frameAt_218 [(o, .inr (10, [.ref o_text, .int v_length, .ref o_now, .ref o_trial, .ref o_diary, .int v_acts, .int v_next, .ref o_kept, .ref o_isKept, .ref o_knownPlace, .ref o_knownLetter, .int v_known, .long v_seed, .int v_wide, .int v_bits, .int v_parity, .int v_stops, .int v_idle, .int v_frames, .int v_failed, .int v_failedAt, .int x5, .ref o_letters, .ref o_starts, .int v_bestFrames, .ref o_bestLetters, .int v_alike, .int v_fitting, .ref o_deep, .ref o_worth, .int v_readLevel, .int v_readMany, .ref o_readTicks, .int v_part, .int v_ten])), (o_deep, .inl (cI, 360, .inl v_deep)), (o_letters, .inl (cI, 64, .inl (upd v_letters (ix v_frames) x3))), (o_starts, .inl (cI, 64, .inl v_starts)), (o_a1, .inl (cI, 361, .inl v_a1))] rfl ?_
        refine g_aload_n C 0 0 o dX10_frameAt_219 rfl rfl ?_
        refine g_get C 10 ix_10 0 _ rfl rfl 23 (by decide) wm_136 rfl (.ref o_starts) rfl dX10_frameAt_220 ?_
        refine g_aload_n C 0 0 o dX10_frameAt_223 rfl rfl ?_
        refine g_get C 10 ix_10 0 _ rfl rfl 18 (by decide) wm_396 rfl (.int v_frames) rfl dX10_frameAt_224 ?_
        refine g_iload_n C 2 2 x2 dX10_frameAt_227 rfl rfl ?_
        obtain ⟨hi4, h⟩ := h
        refine g_iast C 3 0 cI 64 v_starts rfl rfl hi4 dX10_frameAt_228 [(o, .inr (10, [.ref o_text, .int v_length, .ref o_now, .ref o_trial, .ref o_diary, .int v_acts, .int v_next, .ref o_kept, .ref o_isKept, .ref o_knownPlace, .ref o_knownLetter, .int v_known, .long v_seed, .int v_wide, .int v_bits, .int v_parity, .int v_stops, .int v_idle, .int v_frames, .int v_failed, .int v_failedAt, .int x5, .ref o_letters, .ref o_starts, .int v_bestFrames, .ref o_bestLetters, .int v_alike, .int v_fitting, .ref o_deep, .ref o_worth, .int v_readLevel, .int v_readMany, .ref o_readTicks, .int v_part, .int v_ten])), (o_deep, .inl (cI, 360, .inl v_deep)), (o_letters, .inl (cI, 64, .inl (upd v_letters (ix v_frames) x3))), (o_starts, .inl (cI, 64, .inl (upd v_starts (ix v_frames) x2))), (o_a1, .inl (cI, 361, .inl v_a1))] rfl ?_
        refine g_aload_n C 0 0 o dX10_frameAt_229 rfl rfl ?_
        refine g_dup C dX10_frameAt_230 rfl ?_
        refine g_get C 10 ix_10 0 _ rfl rfl 18 (by decide) wm_396 rfl (.int v_frames) rfl dX10_frameAt_231 ?_
        refine g_iconst C (1 : Int32) dX10_frameAt_234 rfl ?_
        refine g_iadd C dX10_frameAt_235 ?_
        refine g_put C 10 ix_10 0 _ rfl rfl 18 (by decide) wm_396 rfl tyX10 tyX10_ok nmX10 rfl rfl rfl (Nat.le_of_ble_eq_true rfl) dX10_frameAt_236 [(o, .inr (10, [.ref o_text, .int v_length, .ref o_now, .ref o_trial, .ref o_diary, .int v_acts, .int v_next, .ref o_kept, .ref o_isKept, .ref o_knownPlace, .ref o_knownLetter, .int v_known, .long v_seed, .int v_wide, .int v_bits, .int v_parity, .int v_stops, .int v_idle, .int (v_frames + (1 : Int32)), .int v_failed, .int v_failedAt, .int x5, .ref o_letters, .ref o_starts, .int v_bestFrames, .ref o_bestLetters, .int v_alike, .int v_fitting, .ref o_deep, .ref o_worth, .int v_readLevel, .int v_readMany, .ref o_readTicks, .int v_part, .int v_ten])), (o_deep, .inl (cI, 360, .inl v_deep)), (o_letters, .inl (cI, 64, .inl (upd v_letters (ix v_frames) x3))), (o_starts, .inl (cI, 64, .inl (upd v_starts (ix v_frames) x2))), (o_a1, .inl (cI, 361, .inl v_a1))] rfl ?_
        refine g_iconst C (0 : Int32) dX10_frameAt_239 rfl ?_
        exact hret _ ((v_frames + (1 : Int32)), x5, (upd v_letters (ix v_frames) x3), (upd v_starts (ix v_frames) x2)) _ _ _ dX10_frameAt_240 h rfl
      have h := wp_f c2 h
      refine g_iload_n C 2 2 x2 dX10_frameAt_23 rfl rfl ?_
      refine g_aload_n C 0 0 o dX10_frameAt_24 rfl rfl ?_
      refine g_get C 10 ix_10 0 _ rfl rfl 13 (by decide) wm_408 rfl (.int v_wide) rfl dX10_frameAt_25 ?_
      refine g_iload C 6 6 x6 dX10_frameAt_28 rfl ?_
      refine g_imul C dX10_frameAt_30 ?_
      refine g_iadd C dX10_frameAt_31 ?_
      refine g_aload_n C 0 0 o dX10_frameAt_32 rfl rfl ?_
      refine g_get C 10 ix_10 0 _ rfl rfl 13 (by decide) wm_408 rfl (.int v_wide) rfl dX10_frameAt_33 ?_
      refine g_iconst C (2 : Int32) dX10_frameAt_36 rfl ?_
      refine g_idiv C (by decide) dX10_frameAt_37 ?_
      refine g_iadd C dX10_frameAt_38 ?_
      refine g_topi (fun y5 ey5 => ?_)
      have h := h y5 ey5
      refine g_istore C [(7, .int y5), (0, .ref o), (1, .ref o_a1), (2, .int x2), (3, .int x3), (4, .int x4), (5, .int x5), (6, .int x6)] dX10_frameAt_39 (by decide) rfl ?_
      refine g_aload_n C 1 2 o_a1 dX10_frameAt_41 rfl rfl ?_
      refine g_iload C 7 0 y5 dX10_frameAt_42 rfl ?_
      refine g_callSi0 (As := [.ref o_a1, .int y5]) (rest := []) C (c_X10_isTick l D cI cJ cZ cW o_a1 v_a1 y5 fu _ h) 2 gd_X10_117 rfl rfl rfl (by decide +kernel) ⟨Nat.le_of_ble_eq_true rfl, Nat.le_of_ble_eq_true rfl⟩ ⟨Nat.le_of_ble_eq_true rfl, Nat.le_of_ble_eq_true rfl⟩ rfl rfl (Nat.le_of_ble_eq_true rfl) [4] rfl rfl dX10_frameAt_44 (fun r6 h => ?_)
      obtain ⟨hzr6, h⟩ := h
      refine g_if_ne C 52 dX10_frameAt_47 (by decide) (fun c7 => ?_) (fun c7 => ?_)
      rotate_left
      · have h := wp_t c7 h
        refine g_iconst C (4 : Int32) dX10_frameAt_50 rfl ?_
        exact hret _ (v_frames, v_margin, v_letters, v_starts) _ _ _ dX10_frameAt_51 h rfl
      have h := wp_f c7 h
      refine g_aload_n C 1 2 o_a1 dX10_frameAt_52 rfl rfl ?_
      refine g_iload C 7 0 y5 dX10_frameAt_53 rfl ?_
      obtain ⟨hi8, h⟩ := h
      refine g_iald C 4 0 cI 361 v_a1 rfl rfl hi8 dX10_frameAt_55 ?_
      refine g_aload_n C 0 1 o dX10_frameAt_56 rfl rfl ?_
      refine g_get C 10 ix_10 0 _ rfl rfl 17 (by decide) wm_412 rfl (.int v_idle) rfl dX10_frameAt_57 ?_
      refine g_icmp_ne C 67 dX10_frameAt_60 (by decide) (fun c9 => ?_) (fun c9 => ?_)
      · have h := wp_f c9 h
        refine g_iconst C (0 : Int32) dX10_frameAt_67 rfl ?_
        refine g_lv [1, 2, 3, 4, 5, 6, 7, 0] rfl ?_
        exact H68  x3 x4 x5 x6 y5 (0 : Int32) v_frames v_margin v_letters v_starts h
      have h := wp_t c9 h
      refine g_iconst C (1 : Int32) dX10_frameAt_63 rfl ?_
      refine g_goto C 68 dX10_frameAt_64 (by decide) ?_
      refine g_lv [1, 2, 3, 4, 5, 6, 7, 0] rfl ?_
      exact H68  x3 x4 x5 x6 y5 (1 : Int32) v_frames v_margin v_letters v_starts h
  unfold wp_X10_frameAt at h
  refine g_iconst C (0 : Int32) dX10_frameAt_0 rfl ?_
  refine g_istore_n C [(3, .int (0 : Int32)), (0, .ref o), (1, .ref o_a1), (2, .int x2)] dX10_frameAt_1 rfl (by decide) rfl ?_
  refine g_iconst C (0 : Int32) dX10_frameAt_2 rfl ?_
  refine g_istore C [(4, .int (0 : Int32)), (3, .int (0 : Int32)), (0, .ref o), (1, .ref o_a1), (2, .int x2)] dX10_frameAt_3 (by decide) rfl ?_
  refine g_aload_n C 0 2 o dX10_frameAt_5 rfl rfl ?_
  refine g_get C 10 ix_10 0 _ rfl rfl 21 (by decide) wm_395 rfl (.int v_margin) rfl dX10_frameAt_6 ?_
  refine g_istore C [(5, .int v_margin), (4, .int (0 : Int32)), (3, .int (0 : Int32)), (0, .ref o), (1, .ref o_a1), (2, .int x2)] dX10_frameAt_9 (by decide) rfl ?_
  refine g_iconst C (0 : Int32) dX10_frameAt_11 rfl ?_
  refine g_istore C [(6, .int (0 : Int32)), (5, .int v_margin), (4, .int (0 : Int32)), (3, .int (0 : Int32)), (0, .ref o), (1, .ref o_a1), (2, .int x2)] dX10_frameAt_12 (by decide) rfl ?_
  refine g_lv [4, 5, 6, 3, 2, 1, 0] rfl ?_
  exact H14 fu  (0 : Int32) (0 : Int32) v_margin (0 : Int32) v_frames v_margin v_letters v_starts h
abbrev rmX10_read : Room := { frames := 3, cells := 0, slots := 0, locals := 75 }
def wX10_read_114 (fu : Nat) (v_bits : Int32) (v_idle : Int32) (v_parity : Int32) (v_stops : Int32) (v_wide : Int32) (v_deep : (Nat → Int32)) (v_a1 : (Nat → Int32)) (Q : Int32 → Int32 → Int32 → Int32 → (Nat → Int32) → (Nat → Int32) → Prop) (K25 : Int32 → Int32 → Int32 → Int32 → Int32 → (Nat → Int32) → (Nat → Int32) → Prop) (x2 : Int32) (v_failed : Int32) (v_failedAt : Int32) (v_frames : Int32) (v_margin : Int32) (v_letters : (Nat → Int32)) (v_starts : (Nat → Int32)) : Prop := K25 (x2 + (1 : Int32)) v_failed v_failedAt v_frames v_margin v_letters v_starts
def wX10_read_87 (fu : Nat) (v_bits : Int32) (v_idle : Int32) (v_parity : Int32) (v_stops : Int32) (v_wide : Int32) (v_deep : (Nat → Int32)) (v_a1 : (Nat → Int32)) (Q : Int32 → Int32 → Int32 → Int32 → (Nat → Int32) → (Nat → Int32) → Prop) (K25 : Int32 → Int32 → Int32 → Int32 → Int32 → (Nat → Int32) → (Nat → Int32) → Prop) (x2 : Int32) (k1 : Int32) (v_failed : Int32) (v_failedAt : Int32) (v_frames : Int32) (v_margin : Int32) (v_letters : (Nat → Int32)) (v_starts : (Nat → Int32)) : Prop := wp_X10_frameBits fu v_bits v_parity v_stops (fun (r13 : Int32) => (∀ y14 : Int32, y14 = (x2 + ((v_wide * (r13 - (1 : Int32))) + (v_wide / (2 : Int32)))) → K25 y14 v_failed k1 v_frames v_margin v_letters v_starts))
def wX10_read_25 (fu : Nat) (v_bits : Int32) (v_idle : Int32) (v_parity : Int32) (v_stops : Int32) (v_wide : Int32) (v_deep : (Nat → Int32)) (v_a1 : (Nat → Int32)) (Q : Int32 → Int32 → Int32 → Int32 → (Nat → Int32) → (Nat → Int32) → Prop) : Nat → Int32 → Int32 → Int32 → Int32 → Int32 → (Nat → Int32) → (Nat → Int32) → Prop
  | 0, _, _, _, _, _, _, _ => False
  | n0 + 1, x2, v_failed, v_failedAt, v_frames, v_margin, v_letters, v_starts => (if (v_a1 (ix (360 : Int32))) ≤ x2 then Q v_failed v_failedAt v_frames v_margin v_letters v_starts else (if v_failed = 0 then (vp_in x2 361 ∧ (if (v_a1 (ix x2)) = v_idle then wX10_read_114 fu v_bits v_idle v_parity v_stops v_wide v_deep v_a1 Q (wX10_read_25 fu v_bits v_idle v_parity v_stops v_wide v_deep v_a1 Q n0) x2 v_failed v_failedAt v_frames v_margin v_letters v_starts else (vp_in (x2 - (1 : Int32)) 361 ∧ (if (v_a1 (ix (x2 - (1 : Int32)))) = v_idle then wp_X10_frameAt fu v_bits v_idle v_parity v_stops v_wide v_deep v_a1 x2 v_frames v_margin v_letters v_starts (fun (r11 : Int32) (z7 : Int32) (z8 : Int32) (z9 : (Nat → Int32)) (z10 : (Nat → Int32)) => (if r11 ≤ 0 then wX10_read_87 fu v_bits v_idle v_parity v_stops v_wide v_deep v_a1 Q (wX10_read_25 fu v_bits v_idle v_parity v_stops v_wide v_deep v_a1 Q n0) x2 (-9 : Int32) r11 v_failedAt z7 z8 z9 z10 else wX10_read_87 fu v_bits v_idle v_parity v_stops v_wide v_deep v_a1 Q (wX10_read_25 fu v_bits v_idle v_parity v_stops v_wide v_deep v_a1 Q n0) x2 x2 r11 v_failedAt z7 z8 z9 z10)) else wX10_read_114 fu v_bits v_idle v_parity v_stops v_wide v_deep v_a1 Q (wX10_read_25 fu v_bits v_idle v_parity v_stops v_wide v_deep v_a1 Q n0) x2 v_failed v_failedAt v_frames v_margin v_letters v_starts)))) else Q v_failed v_failedAt v_frames v_margin v_letters v_starts))
def wp_X10_read (fu : Nat) (v_bits : Int32) (v_idle : Int32) (v_parity : Int32) (v_stops : Int32) (v_wide : Int32) (v_deep : (Nat → Int32)) (v_a1 : (Nat → Int32)) (v_failed : Int32) (v_failedAt : Int32) (v_frames : Int32) (v_margin : Int32) (v_letters : (Nat → Int32)) (v_starts : (Nat → Int32)) (Q : Int32 → Int32 → Int32 → Int32 → (Nat → Int32) → (Nat → Int32) → Prop) : Prop := wX10_read_25 fu v_bits v_idle v_parity v_stops v_wide v_deep v_a1 Q fu (1 : Int32) (0 : Int32) (-9 : Int32) (0 : Int32) (360 : Int32) v_letters v_starts
set_option maxHeartbeats 4000000 in
set_option maxRecDepth 100000 in
theorem c_X10_read (l : Launch) (D : va_G) (cI cJ cZ cW : ClassId) (o o_text o_now o_trial o_diary o_kept o_isKept o_knownPlace o_knownLetter o_letters o_starts o_bestLetters o_deep o_worth o_readTicks o_a1 : Nat) (v_length : Int32) (v_acts : Int32) (v_next : Int32) (v_known : Int32) (v_seed : Int64) (v_wide : Int32) (v_bits : Int32) (v_parity : Int32) (v_stops : Int32) (v_idle : Int32) (v_frames : Int32) (v_failed : Int32) (v_failedAt : Int32) (v_margin : Int32) (v_bestFrames : Int32) (v_alike : Int32) (v_fitting : Int32) (v_readLevel : Int32) (v_readMany : Int32) (v_part : Int32) (v_ten : Int32) (v_deep : (Nat → Int32)) (v_letters : (Nat → Int32)) (v_starts : (Nat → Int32)) (v_a1 : (Nat → Int32)) (fu : Nat) (Q : Int32 → Int32 → Int32 → Int32 → (Nat → Int32) → (Nat → Int32) → Prop) (h : wp_X10_read fu v_bits v_idle v_parity v_stops v_wide v_deep v_a1 v_failed v_failedAt v_frames v_margin v_letters v_starts Q) : CtV l yX10_read wkX10_read rmX10_read D (tys4 cI cJ cZ cW) [.ref o, .ref o_a1] [(o, .inr (10, [.ref o_text, .int v_length, .ref o_now, .ref o_trial, .ref o_diary, .int v_acts, .int v_next, .ref o_kept, .ref o_isKept, .ref o_knownPlace, .ref o_knownLetter, .int v_known, .long v_seed, .int v_wide, .int v_bits, .int v_parity, .int v_stops, .int v_idle, .int v_frames, .int v_failed, .int v_failedAt, .int v_margin, .ref o_letters, .ref o_starts, .int v_bestFrames, .ref o_bestLetters, .int v_alike, .int v_fitting, .ref o_deep, .ref o_worth, .int v_readLevel, .int v_readMany, .ref o_readTicks, .int v_part, .int v_ten])), (o_deep, .inl (cI, 360, .inl v_deep)), (o_letters, .inl (cI, 64, .inl v_letters)), (o_starts, .inl (cI, 64, .inl v_starts)), (o_a1, .inl (cI, 361, .inl v_a1))] (fun (u : Int32 × Int32 × Int32 × Int32 × (Nat → Int32) × (Nat → Int32)) => Q u.1 u.2.1 u.2.2.1 u.2.2.2.1 u.2.2.2.2.1 u.2.2.2.2.2) (fun (u : Int32 × Int32 × Int32 × Int32 × (Nat → Int32) × (Nat → Int32)) => [(o, .inr (10, [.ref o_text, .int v_length, .ref o_now, .ref o_trial, .ref o_diary, .int v_acts, .int v_next, .ref o_kept, .ref o_isKept, .ref o_knownPlace, .ref o_knownLetter, .int v_known, .long v_seed, .int v_wide, .int v_bits, .int v_parity, .int v_stops, .int v_idle, .int u.2.2.1, .int u.1, .int u.2.1, .int u.2.2.2.1, .ref o_letters, .ref o_starts, .int v_bestFrames, .ref o_bestLetters, .int v_alike, .int v_fitting, .ref o_deep, .ref o_worth, .int v_readLevel, .int v_readMany, .ref o_readTicks, .int v_part, .int v_ten])), (o_deep, .inl (cI, 360, .inl v_deep)), (o_letters, .inl (cI, 64, .inl u.2.2.2.2.1)), (o_starts, .inl (cI, 64, .inl u.2.2.2.2.2)), (o_a1, .inl (cI, 361, .inl v_a1))]) := by
  refine CtV.of (S := Int32 × Int32 × Int32 × Int32 × (Nat → Int32) × (Nat → Int32)) (y := yX10_read) (Tc := wkX10_read) (rm := rmX10_read) (D := D) (tys := tys4 cI cJ cZ cW) (av := [.ref o, .ref o_a1]) (wc := [(o, .inr (10, [.ref o_text, .int v_length, .ref o_now, .ref o_trial, .ref o_diary, .int v_acts, .int v_next, .ref o_kept, .ref o_isKept, .ref o_knownPlace, .ref o_knownLetter, .int v_known, .long v_seed, .int v_wide, .int v_bits, .int v_parity, .int v_stops, .int v_idle, .int v_frames, .int v_failed, .int v_failedAt, .int v_margin, .ref o_letters, .ref o_starts, .int v_bestFrames, .ref o_bestLetters, .int v_alike, .int v_fitting, .ref o_deep, .ref o_worth, .int v_readLevel, .int v_readMany, .ref o_readTicks, .int v_part, .int v_ten])), (o_deep, .inl (cI, 360, .inl v_deep)), (o_letters, .inl (cI, 64, .inl v_letters)), (o_starts, .inl (cI, 64, .inl v_starts)), (o_a1, .inl (cI, 361, .inl v_a1))]) (post := (fun (u : Int32 × Int32 × Int32 × Int32 × (Nat → Int32) × (Nat → Int32)) => Q u.1 u.2.1 u.2.2.1 u.2.2.2.1 u.2.2.2.2.1 u.2.2.2.2.2)) (w1 := (fun (u : Int32 × Int32 × Int32 × Int32 × (Nat → Int32) × (Nat → Int32)) => [(o, .inr (10, [.ref o_text, .int v_length, .ref o_now, .ref o_trial, .ref o_diary, .int v_acts, .int v_next, .ref o_kept, .ref o_isKept, .ref o_knownPlace, .ref o_knownLetter, .int v_known, .long v_seed, .int v_wide, .int v_bits, .int v_parity, .int v_stops, .int v_idle, .int u.2.2.1, .int u.1, .int u.2.1, .int u.2.2.2.1, .ref o_letters, .ref o_starts, .int v_bestFrames, .ref o_bestLetters, .int v_alike, .int v_fitting, .ref o_deep, .ref o_worth, .int v_readLevel, .int v_readMany, .ref o_readTicks, .int v_part, .int v_ten])), (o_deep, .inl (cI, 360, .inl v_deep)), (o_letters, .inl (cI, 64, .inl u.2.2.2.2.1)), (o_starts, .inl (cI, 64, .inl u.2.2.2.2.2)), (o_a1, .inl (cI, 361, .inl v_a1))])) (cc := cX10_read) (maxL := 3) RX10 rfl (by decide +kernel) rfl rfl [(0, .ref o), (1, .ref o_a1)] rfl ?_
  intro p e s m args below meth c A Qm C hret
  have H25 : ∀ (n25 : Nat) (x2 : Int32) (v_failed : Int32) (v_failedAt : Int32) (v_frames : Int32) (v_margin : Int32) (v_letters : (Nat → Int32)) (v_starts : (Nat → Int32)), wX10_read_25 fu v_bits v_idle v_parity v_stops v_wide v_deep v_a1 Q n25 x2 v_failed v_failedAt v_frames v_margin v_letters v_starts → G p l e rmX10_read s m args below meth c D A 3 0 0 Qm [(o, .inr (10, [.ref o_text, .int v_length, .ref o_now, .ref o_trial, .ref o_diary, .int v_acts, .int v_next, .ref o_kept, .ref o_isKept, .ref o_knownPlace, .ref o_knownLetter, .int v_known, .long v_seed, .int v_wide, .int v_bits, .int v_parity, .int v_stops, .int v_idle, .int v_frames, .int v_failed, .int v_failedAt, .int v_margin, .ref o_letters, .ref o_starts, .int v_bestFrames, .ref o_bestLetters, .int v_alike, .int v_fitting, .ref o_deep, .ref o_worth, .int v_readLevel, .int v_readMany, .ref o_readTicks, .int v_part, .int v_ten])), (o_deep, .inl (cI, 360, .inl v_deep)), (o_letters, .inl (cI, 64, .inl v_letters)), (o_starts, .inl (cI, 64, .inl v_starts)), (o_a1, .inl (cI, 361, .inl v_a1))] [(0, .ref o), (1, .ref o_a1), (2, .int x2)] 25 [] := by
    intro n25
    induction n25 with
    | zero => intro x2 v_failed v_failedAt v_frames v_margin v_letters v_starts h; exact False.elim h
    | succ n25 ih25 =>
      have H114 : ∀ (x2 : Int32) (v_failed : Int32) (v_failedAt : Int32) (v_frames : Int32) (v_margin : Int32) (v_letters : (Nat → Int32)) (v_starts : (Nat → Int32)), wX10_read_114 fu v_bits v_idle v_parity v_stops v_wide v_deep v_a1 Q (wX10_read_25 fu v_bits v_idle v_parity v_stops v_wide v_deep v_a1 Q n25) x2 v_failed v_failedAt v_frames v_margin v_letters v_starts → G p l e rmX10_read s m args below meth c D A 3 0 0 Qm [(o, .inr (10, [.ref o_text, .int v_length, .ref o_now, .ref o_trial, .ref o_diary, .int v_acts, .int v_next, .ref o_kept, .ref o_isKept, .ref o_knownPlace, .ref o_knownLetter, .int v_known, .long v_seed, .int v_wide, .int v_bits, .int v_parity, .int v_stops, .int v_idle, .int v_frames, .int v_failed, .int v_failedAt, .int v_margin, .ref o_letters, .ref o_starts, .int v_bestFrames, .ref o_bestLetters, .int v_alike, .int v_fitting, .ref o_deep, .ref o_worth, .int v_readLevel, .int v_readMany, .ref o_readTicks, .int v_part, .int v_ten])), (o_deep, .inl (cI, 360, .inl v_deep)), (o_letters, .inl (cI, 64, .inl v_letters)), (o_starts, .inl (cI, 64, .inl v_starts)), (o_a1, .inl (cI, 361, .inl v_a1))] [(0, .ref o), (1, .ref o_a1), (2, .int x2)] 114 [] := by
        intro x2 v_failed v_failedAt v_frames v_margin v_letters v_starts h
        unfold wX10_read_114 at h
        refine g_iinc C 2 x2 (x2 + (1 : Int32)) [(2, .int (x2 + (1 : Int32))), (0, .ref o), (1, .ref o_a1)] dX10_read_114 rfl rfl (by decide) rfl ?_
        refine g_goto C 25 dX10_read_117 (by decide) ?_
        refine g_lv [1, 2, 0] rfl ?_
        exact ih25  (x2 + (1 : Int32)) v_failed v_failedAt v_frames v_margin v_letters v_starts h
      have H87 : ∀ (x2 : Int32) (k1 : Int32) (v_failed : Int32) (v_failedAt : Int32) (v_frames : Int32) (v_margin : Int32) (v_letters : (Nat → Int32)) (v_starts : (Nat → Int32)), wX10_read_87 fu v_bits v_idle v_parity v_stops v_wide v_deep v_a1 Q (wX10_read_25 fu v_bits v_idle v_parity v_stops v_wide v_deep v_a1 Q n25) x2 k1 v_failed v_failedAt v_frames v_margin v_letters v_starts → G p l e rmX10_read s m args below meth c D A 3 0 0 Qm [(o, .inr (10, [.ref o_text, .int v_length, .ref o_now, .ref o_trial, .ref o_diary, .int v_acts, .int v_next, .ref o_kept, .ref o_isKept, .ref o_knownPlace, .ref o_knownLetter, .int v_known, .long v_seed, .int v_wide, .int v_bits, .int v_parity, .int v_stops, .int v_idle, .int v_frames, .int v_failed, .int v_failedAt, .int v_margin, .ref o_letters, .ref o_starts, .int v_bestFrames, .ref o_bestLetters, .int v_alike, .int v_fitting, .ref o_deep, .ref o_worth, .int v_readLevel, .int v_readMany, .ref o_readTicks, .int v_part, .int v_ten])), (o_deep, .inl (cI, 360, .inl v_deep)), (o_letters, .inl (cI, 64, .inl v_letters)), (o_starts, .inl (cI, 64, .inl v_starts)), (o_a1, .inl (cI, 361, .inl v_a1))] [(0, .ref o), (1, .ref o_a1), (2, .int x2)] 87 [.int k1, .ref o] := by
        intro x2 k1 v_failed v_failedAt v_frames v_margin v_letters v_starts h
        unfold wX10_read_87 at h
        refine g_put C 10 ix_10 0 _ rfl rfl 20 (by decide) wm_422 rfl tyX10 tyX10_ok nmX10 rfl rfl rfl (Nat.le_of_ble_eq_true rfl) dX10_read_87 [(o, .inr (10, [.ref o_text, .int v_length, .ref o_now, .ref o_trial, .ref o_diary, .int v_acts, .int v_next, .ref o_kept, .ref o_isKept, .ref o_knownPlace, .ref o_knownLetter, .int v_known, .long v_seed, .int v_wide, .int v_bits, .int v_parity, .int v_stops, .int v_idle, .int v_frames, .int v_failed, .int k1, .int v_margin, .ref o_letters, .ref o_starts, .int v_bestFrames, .ref o_bestLetters, .int v_alike, .int v_fitting, .ref o_deep, .ref o_worth, .int v_readLevel, .int v_readMany, .ref o_readTicks, .int v_part, .int v_ten])), (o_deep, .inl (cI, 360, .inl v_deep)), (o_letters, .inl (cI, 64, .inl v_letters)), (o_starts, .inl (cI, 64, .inl v_starts)), (o_a1, .inl (cI, 361, .inl v_a1))] rfl ?_
        refine g_iload_n C 2 2 x2 dX10_read_90 rfl rfl ?_
        refine g_aload_n C 0 0 o dX10_read_91 rfl rfl ?_
        refine g_get C 10 ix_10 0 _ rfl rfl 13 (by decide) wm_408 rfl (.int v_wide) rfl dX10_read_92 ?_
        refine g_aload_n C 0 0 o dX10_read_95 rfl rfl ?_
        refine g_callVi0 (As := []) (rest := [.int v_wide, .int x2]) C (c_X10_frameBits l D cI cJ cZ cW o o_text o_now o_trial o_diary o_kept o_isKept o_knownPlace o_knownLetter o_letters o_starts o_bestLetters o_deep o_worth o_readTicks v_length v_acts v_next v_known v_seed v_wide v_bits v_parity v_stops v_idle v_frames v_failed k1 v_margin v_bestFrames v_alike v_fitting v_readLevel v_readMany v_part v_ten fu _ h) 0 gd_X10_114 rfl rfl rfl (by decide +kernel) ⟨Nat.le_of_ble_eq_true rfl, Nat.le_of_ble_eq_true rfl⟩ ⟨Nat.le_of_ble_eq_true rfl, Nat.le_of_ble_eq_true rfl⟩ 10 0 rfl rfl rfl rfl (Nat.le_of_ble_eq_true rfl) [0] rfl rfl dX10_read_96 (fun r13 h => ?_)
        refine g_iconst C (1 : Int32) dX10_read_99 rfl ?_
        refine g_isub C dX10_read_100 ?_
        refine g_imul C dX10_read_101 ?_
        refine g_aload_n C 0 0 o dX10_read_102 rfl rfl ?_
        refine g_get C 10 ix_10 0 _ rfl rfl 13 (by decide) wm_408 rfl (.int v_wide) rfl dX10_read_103 ?_
        refine g_iconst C (2 : Int32) dX10_read_106 rfl ?_
        refine g_idiv C (by decide) dX10_read_107 ?_
        refine g_iadd C dX10_read_108 ?_
        refine g_iadd C dX10_read_109 ?_
        refine g_topi (fun y14 ey14 => ?_)
        have h := h y14 ey14
        refine g_istore_n C [(2, .int y14), (0, .ref o), (1, .ref o_a1)] dX10_read_110 rfl (by decide) rfl ?_
        refine g_goto C 25 dX10_read_111 (by decide) ?_
        refine g_lv [1, 2, 0] rfl ?_
        exact ih25  y14 v_failed k1 v_frames v_margin v_letters v_starts h
      intro x2 v_failed v_failedAt v_frames v_margin v_letters v_starts h
      unfold wX10_read_25 at h
      refine g_iload_n C 2 2 x2 dX10_read_25 rfl rfl ?_
      refine g_aload_n C 1 1 o_a1 dX10_read_26 rfl rfl ?_
      refine g_sipush C (360 : Int32) dX10_read_27 rfl ?_
      refine g_iald C 4 0 cI 361 v_a1 rfl rfl (vp_in_dec rfl) dX10_read_30 ?_
      refine g_icmp_ge C 120 dX10_read_31 (by decide) (fun c1 => ?_) (fun c1 => ?_)
      · have h := wp_t c1 h
        exact hret (v_failed, v_failedAt, v_frames, v_margin, v_letters, v_starts) _ _ _ dX10_read_120 h rfl
      have h := wp_f c1 h
      refine g_aload_n C 0 0 o dX10_read_34 rfl rfl ?_
      refine g_get C 10 ix_10 0 _ rfl rfl 19 (by decide) wm_421 rfl (.int v_failed) rfl dX10_read_35 ?_
      refine g_if_ne C 120 dX10_read_38 (by decide) (fun c2 => ?_) (fun c2 => ?_)
      · have h := wp_f c2 h
        exact hret (v_failed, v_failedAt, v_frames, v_margin, v_letters, v_starts) _ _ _ dX10_read_120 h rfl
      have h := wp_t c2 h
      refine g_aload_n C 1 1 o_a1 dX10_read_41 rfl rfl ?_
      refine g_iload_n C 2 2 x2 dX10_read_42 rfl rfl ?_
      obtain ⟨hi3, h⟩ := h
      refine g_iald C 4 0 cI 361 v_a1 rfl rfl hi3 dX10_read_43 ?_
      refine g_aload_n C 0 0 o dX10_read_44 rfl rfl ?_
      refine g_get C 10 ix_10 0 _ rfl rfl 17 (by decide) wm_412 rfl (.int v_idle) rfl dX10_read_45 ?_
      refine g_icmp_eq C 114 dX10_read_48 (by decide) (fun c4 => ?_) (fun c4 => ?_)
      · have h := wp_t c4 h
        refine g_lv [0, 1, 2] rfl ?_
        exact H114  x2 v_failed v_failedAt v_frames v_margin v_letters v_starts h
      have h := wp_f c4 h
      refine g_aload_n C 1 1 o_a1 dX10_read_51 rfl rfl ?_
      refine g_iload_n C 2 2 x2 dX10_read_52 rfl rfl ?_
      refine g_iconst C (1 : Int32) dX10_read_53 rfl ?_
      refine g_isub C dX10_read_54 ?_
      obtain ⟨hi5, h⟩ := h
      refine g_iald C 4 0 cI 361 v_a1 rfl rfl hi5 dX10_read_55 ?_
      refine g_aload_n C 0 0 o dX10_read_56 rfl rfl ?_
      refine g_get C 10 ix_10 0 _ rfl rfl 17 (by decide) wm_412 rfl (.int v_idle) rfl dX10_read_57 ?_
      refine g_icmp_ne C 114 dX10_read_60 (by decide) (fun c6 => ?_) (fun c6 => ?_)
      · have h := wp_f c6 h
        refine g_lv [0, 1, 2] rfl ?_
        exact H114  x2 v_failed v_failedAt v_frames v_margin v_letters v_starts h
      have h := wp_t c6 h
      refine g_aload_n C 0 0 o dX10_read_63 rfl rfl ?_
      refine g_aload_n C 0 0 o dX10_read_64 rfl rfl ?_
      refine g_aload_n C 1 1 o_a1 dX10_read_65 rfl rfl ?_
      refine g_iload_n C 2 2 x2 dX10_read_66 rfl rfl ?_
      refine g_callVi (As := [.ref o_a1, .int x2]) (rest := [.ref o]) C (c_X10_frameAt l D cI cJ cZ cW o o_text o_now o_trial o_diary o_kept o_isKept o_knownPlace o_knownLetter o_letters o_starts o_bestLetters o_deep o_worth o_readTicks o_a1 v_length v_acts v_next v_known v_seed v_wide v_bits v_parity v_stops v_idle v_frames v_failed v_failedAt v_margin v_bestFrames v_alike v_fitting v_readLevel v_readMany v_part v_ten v_deep v_letters v_starts v_a1 x2 fu _ h) 2 gd_X10_134 rfl rfl rfl (by decide +kernel) ⟨Nat.le_of_ble_eq_true rfl, Nat.le_of_ble_eq_true rfl⟩ ⟨Nat.le_of_ble_eq_true rfl, Nat.le_of_ble_eq_true rfl⟩ 10 0 rfl rfl rfl rfl (Nat.le_of_ble_eq_true rfl) [0, 1, 2, 3, 4] [some 0, some 1, some 2, some 3, some 4] rfl rfl rfl dX10_read_67 (fun r11 u h => ?_)
      obtain ⟨z7, z8, z9, z10⟩ := u
      refine ⟨[(o, .inr (10, [.ref o_text, .int v_length, .ref o_now, .ref o_trial, .ref o_diary, .int v_acts, .int v_next, .ref o_kept, .ref o_isKept, .ref o_knownPlace, .ref o_knownLetter, .int v_known, .long v_seed, .int v_wide, .int v_bits, .int v_parity, .int v_stops, .int v_idle, .int z7, .int v_failed, .int v_failedAt, .int z8, .ref o_letters, .ref o_starts, .int v_bestFrames, .ref o_bestLetters, .int v_alike, .int v_fitting, .ref o_deep, .ref o_worth, .int v_readLevel, .int v_readMany, .ref o_readTicks, .int v_part, .int v_ten])), (o_deep, .inl (cI, 360, .inl v_deep)), (o_letters, .inl (cI, 64, .inl z9)), (o_starts, .inl (cI, 64, .inl z10)), (o_a1, .inl (cI, 361, .inl v_a1))], rfl, rfl, rfl, ?_⟩
      refine g_put C 10 ix_10 0 _ rfl rfl 19 (by decide) wm_421 rfl tyX10 tyX10_ok nmX10 rfl rfl rfl (Nat.le_of_ble_eq_true rfl) dX10_read_70 [(o, .inr (10, [.ref o_text, .int v_length, .ref o_now, .ref o_trial, .ref o_diary, .int v_acts, .int v_next, .ref o_kept, .ref o_isKept, .ref o_knownPlace, .ref o_knownLetter, .int v_known, .long v_seed, .int v_wide, .int v_bits, .int v_parity, .int v_stops, .int v_idle, .int z7, .int r11, .int v_failedAt, .int z8, .ref o_letters, .ref o_starts, .int v_bestFrames, .ref o_bestLetters, .int v_alike, .int v_fitting, .ref o_deep, .ref o_worth, .int v_readLevel, .int v_readMany, .ref o_readTicks, .int v_part, .int v_ten])), (o_deep, .inl (cI, 360, .inl v_deep)), (o_letters, .inl (cI, 64, .inl z9)), (o_starts, .inl (cI, 64, .inl z10)), (o_a1, .inl (cI, 361, .inl v_a1))] rfl ?_
      refine g_aload_n C 0 0 o dX10_read_73 rfl rfl ?_
      refine g_aload_n C 0 0 o dX10_read_74 rfl rfl ?_
      refine g_get C 10 ix_10 0 _ rfl rfl 19 (by decide) wm_421 rfl (.int r11) rfl dX10_read_75 ?_
      refine g_if_le C 85 dX10_read_78 (by decide) (fun c12 => ?_) (fun c12 => ?_)
      · have h := wp_t c12 h
        refine g_bipush C (-9 : Int32) dX10_read_85 rfl ?_
        refine g_lv [0, 1, 2] rfl ?_
        exact H87  x2 (-9 : Int32) r11 v_failedAt z7 z8 z9 z10 h
      have h := wp_f c12 h
      refine g_iload_n C 2 2 x2 dX10_read_81 rfl rfl ?_
      refine g_goto C 87 dX10_read_82 (by decide) ?_
      refine g_lv [0, 1, 2] rfl ?_
      exact H87  x2 x2 r11 v_failedAt z7 z8 z9 z10 h
  unfold wp_X10_read at h
  refine g_aload_n C 0 0 o dX10_read_0 rfl rfl ?_
  refine g_iconst C (0 : Int32) dX10_read_1 rfl ?_
  refine g_put C 10 ix_10 0 _ rfl rfl 18 (by decide) wm_396 rfl tyX10 tyX10_ok nmX10 rfl rfl rfl (Nat.le_of_ble_eq_true rfl) dX10_read_2 [(o, .inr (10, [.ref o_text, .int v_length, .ref o_now, .ref o_trial, .ref o_diary, .int v_acts, .int v_next, .ref o_kept, .ref o_isKept, .ref o_knownPlace, .ref o_knownLetter, .int v_known, .long v_seed, .int v_wide, .int v_bits, .int v_parity, .int v_stops, .int v_idle, .int (0 : Int32), .int v_failed, .int v_failedAt, .int v_margin, .ref o_letters, .ref o_starts, .int v_bestFrames, .ref o_bestLetters, .int v_alike, .int v_fitting, .ref o_deep, .ref o_worth, .int v_readLevel, .int v_readMany, .ref o_readTicks, .int v_part, .int v_ten])), (o_deep, .inl (cI, 360, .inl v_deep)), (o_letters, .inl (cI, 64, .inl v_letters)), (o_starts, .inl (cI, 64, .inl v_starts)), (o_a1, .inl (cI, 361, .inl v_a1))] rfl ?_
  refine g_aload_n C 0 0 o dX10_read_5 rfl rfl ?_
  refine g_iconst C (0 : Int32) dX10_read_6 rfl ?_
  refine g_put C 10 ix_10 0 _ rfl rfl 19 (by decide) wm_421 rfl tyX10 tyX10_ok nmX10 rfl rfl rfl (Nat.le_of_ble_eq_true rfl) dX10_read_7 [(o, .inr (10, [.ref o_text, .int v_length, .ref o_now, .ref o_trial, .ref o_diary, .int v_acts, .int v_next, .ref o_kept, .ref o_isKept, .ref o_knownPlace, .ref o_knownLetter, .int v_known, .long v_seed, .int v_wide, .int v_bits, .int v_parity, .int v_stops, .int v_idle, .int (0 : Int32), .int (0 : Int32), .int v_failedAt, .int v_margin, .ref o_letters, .ref o_starts, .int v_bestFrames, .ref o_bestLetters, .int v_alike, .int v_fitting, .ref o_deep, .ref o_worth, .int v_readLevel, .int v_readMany, .ref o_readTicks, .int v_part, .int v_ten])), (o_deep, .inl (cI, 360, .inl v_deep)), (o_letters, .inl (cI, 64, .inl v_letters)), (o_starts, .inl (cI, 64, .inl v_starts)), (o_a1, .inl (cI, 361, .inl v_a1))] rfl ?_
  refine g_aload_n C 0 0 o dX10_read_10 rfl rfl ?_
  refine g_bipush C (-9 : Int32) dX10_read_11 rfl ?_
  refine g_put C 10 ix_10 0 _ rfl rfl 20 (by decide) wm_422 rfl tyX10 tyX10_ok nmX10 rfl rfl rfl (Nat.le_of_ble_eq_true rfl) dX10_read_13 [(o, .inr (10, [.ref o_text, .int v_length, .ref o_now, .ref o_trial, .ref o_diary, .int v_acts, .int v_next, .ref o_kept, .ref o_isKept, .ref o_knownPlace, .ref o_knownLetter, .int v_known, .long v_seed, .int v_wide, .int v_bits, .int v_parity, .int v_stops, .int v_idle, .int (0 : Int32), .int (0 : Int32), .int (-9 : Int32), .int v_margin, .ref o_letters, .ref o_starts, .int v_bestFrames, .ref o_bestLetters, .int v_alike, .int v_fitting, .ref o_deep, .ref o_worth, .int v_readLevel, .int v_readMany, .ref o_readTicks, .int v_part, .int v_ten])), (o_deep, .inl (cI, 360, .inl v_deep)), (o_letters, .inl (cI, 64, .inl v_letters)), (o_starts, .inl (cI, 64, .inl v_starts)), (o_a1, .inl (cI, 361, .inl v_a1))] rfl ?_
  refine g_aload_n C 0 0 o dX10_read_16 rfl rfl ?_
  refine g_sipush C (360 : Int32) dX10_read_17 rfl ?_
  refine g_put C 10 ix_10 0 _ rfl rfl 21 (by decide) wm_395 rfl tyX10 tyX10_ok nmX10 rfl rfl rfl (Nat.le_of_ble_eq_true rfl) dX10_read_20 [(o, .inr (10, [.ref o_text, .int v_length, .ref o_now, .ref o_trial, .ref o_diary, .int v_acts, .int v_next, .ref o_kept, .ref o_isKept, .ref o_knownPlace, .ref o_knownLetter, .int v_known, .long v_seed, .int v_wide, .int v_bits, .int v_parity, .int v_stops, .int v_idle, .int (0 : Int32), .int (0 : Int32), .int (-9 : Int32), .int (360 : Int32), .ref o_letters, .ref o_starts, .int v_bestFrames, .ref o_bestLetters, .int v_alike, .int v_fitting, .ref o_deep, .ref o_worth, .int v_readLevel, .int v_readMany, .ref o_readTicks, .int v_part, .int v_ten])), (o_deep, .inl (cI, 360, .inl v_deep)), (o_letters, .inl (cI, 64, .inl v_letters)), (o_starts, .inl (cI, 64, .inl v_starts)), (o_a1, .inl (cI, 361, .inl v_a1))] rfl ?_
  refine g_iconst C (1 : Int32) dX10_read_23 rfl ?_
  refine g_istore_n C [(2, .int (1 : Int32)), (0, .ref o), (1, .ref o_a1)] dX10_read_24 rfl (by decide) rfl ?_
  refine g_lv [1, 2, 0] rfl ?_
  exact H25 fu  (1 : Int32) (0 : Int32) (-9 : Int32) (0 : Int32) (360 : Int32) v_letters v_starts h
abbrev rmX10_fits : Room := { frames := 0, cells := 0, slots := 0, locals := 0 }
def wp_X10_fits (fu : Nat) (v_failed : Int32) (v_frames : Int32) (Q : Int32 → Prop) : Prop := (if v_failed = 0 then (if v_frames ≤ 0 then Q (0 : Int32) else Q (1 : Int32)) else Q (0 : Int32))
set_option maxHeartbeats 4000000 in
set_option maxRecDepth 100000 in
theorem c_X10_fits (l : Launch) (D : va_G) (cI cJ cZ cW : ClassId) (o o_text o_now o_trial o_diary o_kept o_isKept o_knownPlace o_knownLetter o_letters o_starts o_bestLetters o_deep o_worth o_readTicks : Nat) (v_length : Int32) (v_acts : Int32) (v_next : Int32) (v_known : Int32) (v_seed : Int64) (v_wide : Int32) (v_bits : Int32) (v_parity : Int32) (v_stops : Int32) (v_idle : Int32) (v_frames : Int32) (v_failed : Int32) (v_failedAt : Int32) (v_margin : Int32) (v_bestFrames : Int32) (v_alike : Int32) (v_fitting : Int32) (v_readLevel : Int32) (v_readMany : Int32) (v_part : Int32) (v_ten : Int32) (fu : Nat) (Q : Int32 → Prop) (h : wp_X10_fits fu v_failed v_frames Q) : CtI l yX10_fits wkX10_fits rmX10_fits D (tys4 cI cJ cZ cW) [.ref o] [(o, .inr (10, [.ref o_text, .int v_length, .ref o_now, .ref o_trial, .ref o_diary, .int v_acts, .int v_next, .ref o_kept, .ref o_isKept, .ref o_knownPlace, .ref o_knownLetter, .int v_known, .long v_seed, .int v_wide, .int v_bits, .int v_parity, .int v_stops, .int v_idle, .int v_frames, .int v_failed, .int v_failedAt, .int v_margin, .ref o_letters, .ref o_starts, .int v_bestFrames, .ref o_bestLetters, .int v_alike, .int v_fitting, .ref o_deep, .ref o_worth, .int v_readLevel, .int v_readMany, .ref o_readTicks, .int v_part, .int v_ten]))] (fun (r : Int32) (u : Unit) => (r = 0 ∨ r = 1) ∧ (fun (r : Int32) (u : Unit) => Q r ) r u) (fun (_ : Unit) => [(o, .inr (10, [.ref o_text, .int v_length, .ref o_now, .ref o_trial, .ref o_diary, .int v_acts, .int v_next, .ref o_kept, .ref o_isKept, .ref o_knownPlace, .ref o_knownLetter, .int v_known, .long v_seed, .int v_wide, .int v_bits, .int v_parity, .int v_stops, .int v_idle, .int v_frames, .int v_failed, .int v_failedAt, .int v_margin, .ref o_letters, .ref o_starts, .int v_bestFrames, .ref o_bestLetters, .int v_alike, .int v_fitting, .ref o_deep, .ref o_worth, .int v_readLevel, .int v_readMany, .ref o_readTicks, .int v_part, .int v_ten]))]) := by
  refine CtI.ofZ (S := Unit) (y := yX10_fits) (Tc := wkX10_fits) (rm := rmX10_fits) (D := D) (tys := tys4 cI cJ cZ cW) (av := [.ref o]) (wc := [(o, .inr (10, [.ref o_text, .int v_length, .ref o_now, .ref o_trial, .ref o_diary, .int v_acts, .int v_next, .ref o_kept, .ref o_isKept, .ref o_knownPlace, .ref o_knownLetter, .int v_known, .long v_seed, .int v_wide, .int v_bits, .int v_parity, .int v_stops, .int v_idle, .int v_frames, .int v_failed, .int v_failedAt, .int v_margin, .ref o_letters, .ref o_starts, .int v_bestFrames, .ref o_bestLetters, .int v_alike, .int v_fitting, .ref o_deep, .ref o_worth, .int v_readLevel, .int v_readMany, .ref o_readTicks, .int v_part, .int v_ten]))]) (post := (fun (r : Int32) (u : Unit) => Q r )) (w1 := (fun (_ : Unit) => [(o, .inr (10, [.ref o_text, .int v_length, .ref o_now, .ref o_trial, .ref o_diary, .int v_acts, .int v_next, .ref o_kept, .ref o_isKept, .ref o_knownPlace, .ref o_knownLetter, .int v_known, .long v_seed, .int v_wide, .int v_bits, .int v_parity, .int v_stops, .int v_idle, .int v_frames, .int v_failed, .int v_failedAt, .int v_margin, .ref o_letters, .ref o_starts, .int v_bestFrames, .ref o_bestLetters, .int v_alike, .int v_fitting, .ref o_deep, .ref o_worth, .int v_readLevel, .int v_readMany, .ref o_readTicks, .int v_part, .int v_ten]))])) (cc := cX10_fits) (maxL := 1) RX10 rfl (by decide +kernel) rfl rfl [(0, .ref o)] rfl ?_
  intro p e s m args below meth c A Qm C hret
  unfold wp_X10_fits at h
  refine g_aload_n C 0 0 o dX10_fits_0 rfl rfl ?_
  refine g_get C 10 ix_10 0 _ rfl rfl 19 (by decide) wm_421 rfl (.int v_failed) rfl dX10_fits_1 ?_
  refine g_if_ne C 18 dX10_fits_4 (by decide) (fun c1 => ?_) (fun c1 => ?_)
  · have h := wp_f c1 h
    refine g_iconst C (0 : Int32) dX10_fits_18 rfl ?_
    exact hret _ () _ _ _ (Or.inl rfl) dX10_fits_19 h rfl
  have h := wp_t c1 h
  refine g_aload_n C 0 0 o dX10_fits_7 rfl rfl ?_
  refine g_get C 10 ix_10 0 _ rfl rfl 18 (by decide) wm_396 rfl (.int v_frames) rfl dX10_fits_8 ?_
  refine g_if_le C 18 dX10_fits_11 (by decide) (fun c2 => ?_) (fun c2 => ?_)
  · have h := wp_t c2 h
    refine g_iconst C (0 : Int32) dX10_fits_18 rfl ?_
    exact hret _ () _ _ _ (Or.inl rfl) dX10_fits_19 h rfl
  have h := wp_f c2 h
  refine g_iconst C (1 : Int32) dX10_fits_14 rfl ?_
  refine g_goto C 19 dX10_fits_15 (by decide) ?_
  exact hret _ () _ _ _ (Or.inr rfl) dX10_fits_19 h rfl
abbrev rmX10_layDeep : Room := { frames := 0, cells := 0, slots := 0, locals := 0 }
def wX10_layDeep_123 (fu : Nat) (v_a1 : (Nat → Int32)) (Q : (Nat → Int32) → Prop) (K61 : Int32 → Int32 → Int32 → (Nat → Int32) → Prop) (x2 : Int32) (x3 : Int32) (x4 : Int32) (k1 : Int32) (k2 : Int32) (v_deep : (Nat → Int32)) : Prop := (vp_in k1 360 ∧ K61 x2 x3 (x4 + (-1 : Int32)) (upd v_deep (ix k1) k2))
def wX10_layDeep_94 (fu : Nat) (v_a1 : (Nat → Int32)) (Q : (Nat → Int32) → Prop) (K61 : Int32 → Int32 → Int32 → (Nat → Int32) → Prop) (x2 : Int32) (x4 : Int32) (k0 : Int32) (v_deep : (Nat → Int32)) : Prop := (vp_in x4 360 ∧ (if (v_deep (ix x4)) ≤ k0 then (vp_in x4 360 ∧ wX10_layDeep_123 fu v_a1 Q K61 x2 k0 x4 x4 (v_deep (ix x4)) v_deep) else wX10_layDeep_123 fu v_a1 Q K61 x2 k0 x4 x4 k0 v_deep))
def wX10_layDeep_93 (fu : Nat) (v_a1 : (Nat → Int32)) (Q : (Nat → Int32) → Prop) (K61 : Int32 → Int32 → Int32 → (Nat → Int32) → Prop) (x2 : Int32) (x4 : Int32) (v_deep : (Nat → Int32)) : Prop := wX10_layDeep_94 fu v_a1 Q K61 x2 x4 (0 : Int32) v_deep
def wX10_layDeep_61 (fu : Nat) (v_a1 : (Nat → Int32)) (Q : (Nat → Int32) → Prop) : Nat → Int32 → Int32 → Int32 → (Nat → Int32) → Prop
  | 0, _, _, _, _ => False
  | n0 + 1, x2, x3, x4, v_deep => (if x4 < 0 then Q v_deep else (if (x2 - (1 : Int32)) ≤ x4 then wX10_layDeep_93 fu v_a1 Q (wX10_layDeep_61 fu v_a1 Q n0) x2 x4 v_deep else (vp_in x4 361 ∧ (vp_in (x4 + (1 : Int32)) 361 ∧ (if (v_a1 (ix x4)) = (v_a1 (ix (x4 + (1 : Int32)))) then wX10_layDeep_94 fu v_a1 Q (wX10_layDeep_61 fu v_a1 Q n0) x2 x4 (x3 + (1 : Int32)) v_deep else wX10_layDeep_93 fu v_a1 Q (wX10_layDeep_61 fu v_a1 Q n0) x2 x4 v_deep)))))
def wX10_layDeep_47 (fu : Nat) (v_a1 : (Nat → Int32)) (Q : (Nat → Int32) → Prop) (K8 : Int32 → Int32 → (Nat → Int32) → Prop) (x2 : Int32) (x3 : Int32) (k1 : Int32) (k2 : Int32) (v_deep : (Nat → Int32)) : Prop := (vp_in k1 360 ∧ K8 x2 (x3 + (1 : Int32)) (upd v_deep (ix k1) k2))
def wX10_layDeep_46 (fu : Nat) (v_a1 : (Nat → Int32)) (Q : (Nat → Int32) → Prop) (K8 : Int32 → Int32 → (Nat → Int32) → Prop) (x2 : Int32) (x3 : Int32) (k1 : Int32) (v_deep : (Nat → Int32)) : Prop := wX10_layDeep_47 fu v_a1 Q K8 x2 x3 k1 (0 : Int32) v_deep
def wX10_layDeep_8 (fu : Nat) (v_a1 : (Nat → Int32)) (Q : (Nat → Int32) → Prop) : Nat → Int32 → Int32 → (Nat → Int32) → Prop
  | 0, _, _, _ => False
  | n0 + 1, x2, x3, v_deep => (if x2 ≤ x3 then (∀ y3 : Int32, y3 = (x2 - (1 : Int32)) → wX10_layDeep_61 fu v_a1 Q fu x2 (0 : Int32) y3 v_deep) else (if x3 ≤ 0 then wX10_layDeep_46 fu v_a1 Q (wX10_layDeep_8 fu v_a1 Q n0) x2 x3 x3 v_deep else (vp_in x3 361 ∧ (vp_in (x3 - (1 : Int32)) 361 ∧ (if (v_a1 (ix x3)) = (v_a1 (ix (x3 - (1 : Int32)))) then (vp_in (x3 - (1 : Int32)) 360 ∧ wX10_layDeep_47 fu v_a1 Q (wX10_layDeep_8 fu v_a1 Q n0) x2 x3 x3 ((v_deep (ix (x3 - (1 : Int32)))) + (1 : Int32)) v_deep) else wX10_layDeep_46 fu v_a1 Q (wX10_layDeep_8 fu v_a1 Q n0) x2 x3 x3 v_deep)))))
def wp_X10_layDeep (fu : Nat) (v_a1 : (Nat → Int32)) (v_deep : (Nat → Int32)) (Q : (Nat → Int32) → Prop) : Prop := (∀ y1 : Int32, y1 = (v_a1 (ix (360 : Int32))) → wX10_layDeep_8 fu v_a1 Q fu y1 (0 : Int32) v_deep)
set_option maxHeartbeats 4000000 in
set_option maxRecDepth 100000 in
theorem c_X10_layDeep (l : Launch) (D : va_G) (cI cJ cZ cW : ClassId) (o o_text o_now o_trial o_diary o_kept o_isKept o_knownPlace o_knownLetter o_letters o_starts o_bestLetters o_deep o_worth o_readTicks o_a1 : Nat) (v_length : Int32) (v_acts : Int32) (v_next : Int32) (v_known : Int32) (v_seed : Int64) (v_wide : Int32) (v_bits : Int32) (v_parity : Int32) (v_stops : Int32) (v_idle : Int32) (v_frames : Int32) (v_failed : Int32) (v_failedAt : Int32) (v_margin : Int32) (v_bestFrames : Int32) (v_alike : Int32) (v_fitting : Int32) (v_readLevel : Int32) (v_readMany : Int32) (v_part : Int32) (v_ten : Int32) (v_deep : (Nat → Int32)) (v_a1 : (Nat → Int32)) (fu : Nat) (Q : (Nat → Int32) → Prop) (h : wp_X10_layDeep fu v_a1 v_deep Q) : CtV l yX10_layDeep wkX10_layDeep rmX10_layDeep D (tys4 cI cJ cZ cW) [.ref o, .ref o_a1] [(o, .inr (10, [.ref o_text, .int v_length, .ref o_now, .ref o_trial, .ref o_diary, .int v_acts, .int v_next, .ref o_kept, .ref o_isKept, .ref o_knownPlace, .ref o_knownLetter, .int v_known, .long v_seed, .int v_wide, .int v_bits, .int v_parity, .int v_stops, .int v_idle, .int v_frames, .int v_failed, .int v_failedAt, .int v_margin, .ref o_letters, .ref o_starts, .int v_bestFrames, .ref o_bestLetters, .int v_alike, .int v_fitting, .ref o_deep, .ref o_worth, .int v_readLevel, .int v_readMany, .ref o_readTicks, .int v_part, .int v_ten])), (o_deep, .inl (cI, 360, .inl v_deep)), (o_a1, .inl (cI, 361, .inl v_a1))] (fun (u : (Nat → Int32)) => Q u) (fun (u : (Nat → Int32)) => [(o, .inr (10, [.ref o_text, .int v_length, .ref o_now, .ref o_trial, .ref o_diary, .int v_acts, .int v_next, .ref o_kept, .ref o_isKept, .ref o_knownPlace, .ref o_knownLetter, .int v_known, .long v_seed, .int v_wide, .int v_bits, .int v_parity, .int v_stops, .int v_idle, .int v_frames, .int v_failed, .int v_failedAt, .int v_margin, .ref o_letters, .ref o_starts, .int v_bestFrames, .ref o_bestLetters, .int v_alike, .int v_fitting, .ref o_deep, .ref o_worth, .int v_readLevel, .int v_readMany, .ref o_readTicks, .int v_part, .int v_ten])), (o_deep, .inl (cI, 360, .inl u)), (o_a1, .inl (cI, 361, .inl v_a1))]) := by
  refine CtV.of (S := (Nat → Int32)) (y := yX10_layDeep) (Tc := wkX10_layDeep) (rm := rmX10_layDeep) (D := D) (tys := tys4 cI cJ cZ cW) (av := [.ref o, .ref o_a1]) (wc := [(o, .inr (10, [.ref o_text, .int v_length, .ref o_now, .ref o_trial, .ref o_diary, .int v_acts, .int v_next, .ref o_kept, .ref o_isKept, .ref o_knownPlace, .ref o_knownLetter, .int v_known, .long v_seed, .int v_wide, .int v_bits, .int v_parity, .int v_stops, .int v_idle, .int v_frames, .int v_failed, .int v_failedAt, .int v_margin, .ref o_letters, .ref o_starts, .int v_bestFrames, .ref o_bestLetters, .int v_alike, .int v_fitting, .ref o_deep, .ref o_worth, .int v_readLevel, .int v_readMany, .ref o_readTicks, .int v_part, .int v_ten])), (o_deep, .inl (cI, 360, .inl v_deep)), (o_a1, .inl (cI, 361, .inl v_a1))]) (post := (fun (u : (Nat → Int32)) => Q u)) (w1 := (fun (u : (Nat → Int32)) => [(o, .inr (10, [.ref o_text, .int v_length, .ref o_now, .ref o_trial, .ref o_diary, .int v_acts, .int v_next, .ref o_kept, .ref o_isKept, .ref o_knownPlace, .ref o_knownLetter, .int v_known, .long v_seed, .int v_wide, .int v_bits, .int v_parity, .int v_stops, .int v_idle, .int v_frames, .int v_failed, .int v_failedAt, .int v_margin, .ref o_letters, .ref o_starts, .int v_bestFrames, .ref o_bestLetters, .int v_alike, .int v_fitting, .ref o_deep, .ref o_worth, .int v_readLevel, .int v_readMany, .ref o_readTicks, .int v_part, .int v_ten])), (o_deep, .inl (cI, 360, .inl u)), (o_a1, .inl (cI, 361, .inl v_a1))])) (cc := cX10_layDeep) (maxL := 5) RX10 rfl (by decide +kernel) rfl rfl [(0, .ref o), (1, .ref o_a1)] rfl ?_
  intro p e s m args below meth c A Qm C hret
  have H61 : ∀ (n61 : Nat) (x2 : Int32) (x3 : Int32) (x4 : Int32) (v_deep : (Nat → Int32)), wX10_layDeep_61 fu v_a1 Q n61 x2 x3 x4 v_deep → G p l e rmX10_layDeep s m args below meth c D A 5 0 0 Qm [(o, .inr (10, [.ref o_text, .int v_length, .ref o_now, .ref o_trial, .ref o_diary, .int v_acts, .int v_next, .ref o_kept, .ref o_isKept, .ref o_knownPlace, .ref o_knownLetter, .int v_known, .long v_seed, .int v_wide, .int v_bits, .int v_parity, .int v_stops, .int v_idle, .int v_frames, .int v_failed, .int v_failedAt, .int v_margin, .ref o_letters, .ref o_starts, .int v_bestFrames, .ref o_bestLetters, .int v_alike, .int v_fitting, .ref o_deep, .ref o_worth, .int v_readLevel, .int v_readMany, .ref o_readTicks, .int v_part, .int v_ten])), (o_deep, .inl (cI, 360, .inl v_deep)), (o_a1, .inl (cI, 361, .inl v_a1))] [(0, .ref o), (1, .ref o_a1), (2, .int x2), (3, .int x3), (4, .int x4)] 61 [] := by
    intro n61
    induction n61 with
    | zero => intro x2 x3 x4 v_deep h; exact False.elim h
    | succ n61 ih61 =>
      have H123 : ∀ (x2 : Int32) (x3 : Int32) (x4 : Int32) (k1 : Int32) (k2 : Int32) (v_deep : (Nat → Int32)), wX10_layDeep_123 fu v_a1 Q (wX10_layDeep_61 fu v_a1 Q n61) x2 x3 x4 k1 k2 v_deep → G p l e rmX10_layDeep s m args below meth c D A 5 0 0 Qm [(o, .inr (10, [.ref o_text, .int v_length, .ref o_now, .ref o_trial, .ref o_diary, .int v_acts, .int v_next, .ref o_kept, .ref o_isKept, .ref o_knownPlace, .ref o_knownLetter, .int v_known, .long v_seed, .int v_wide, .int v_bits, .int v_parity, .int v_stops, .int v_idle, .int v_frames, .int v_failed, .int v_failedAt, .int v_margin, .ref o_letters, .ref o_starts, .int v_bestFrames, .ref o_bestLetters, .int v_alike, .int v_fitting, .ref o_deep, .ref o_worth, .int v_readLevel, .int v_readMany, .ref o_readTicks, .int v_part, .int v_ten])), (o_deep, .inl (cI, 360, .inl v_deep)), (o_a1, .inl (cI, 361, .inl v_a1))] [(0, .ref o), (1, .ref o_a1), (2, .int x2), (3, .int x3), (4, .int x4)] 123 [.int k2, .int k1, .ref o_deep] := by
        intro x2 x3 x4 k1 k2 v_deep h
        unfold wX10_layDeep_123 at h
        obtain ⟨hi18, h⟩ := h
        refine g_iast C 1 0 cI 360 v_deep rfl rfl hi18 dX10_layDeep_123 [(o, .inr (10, [.ref o_text, .int v_length, .ref o_now, .ref o_trial, .ref o_diary, .int v_acts, .int v_next, .ref o_kept, .ref o_isKept, .ref o_knownPlace, .ref o_knownLetter, .int v_known, .long v_seed, .int v_wide, .int v_bits, .int v_parity, .int v_stops, .int v_idle, .int v_frames, .int v_failed, .int v_failedAt, .int v_margin, .ref o_letters, .ref o_starts, .int v_bestFrames, .ref o_bestLetters, .int v_alike, .int v_fitting, .ref o_deep, .ref o_worth, .int v_readLevel, .int v_readMany, .ref o_readTicks, .int v_part, .int v_ten])), (o_deep, .inl (cI, 360, .inl (upd v_deep (ix k1) k2))), (o_a1, .inl (cI, 361, .inl v_a1))] rfl ?_
        refine g_iinc C 4 x4 (x4 + (-1 : Int32)) [(4, .int (x4 + (-1 : Int32))), (0, .ref o), (1, .ref o_a1), (2, .int x2), (3, .int x3)] dX10_layDeep_124 rfl rfl (by decide) rfl ?_
        refine g_goto C 61 dX10_layDeep_127 (by decide) ?_
        refine g_lv [1, 2, 3, 4, 0] rfl ?_
        exact ih61  x2 x3 (x4 + (-1 : Int32)) (upd v_deep (ix k1) k2) h
      have H94 : ∀ (x2 : Int32) (x4 : Int32) (k0 : Int32) (v_deep : (Nat → Int32)), wX10_layDeep_94 fu v_a1 Q (wX10_layDeep_61 fu v_a1 Q n61) x2 x4 k0 v_deep → G p l e rmX10_layDeep s m args below meth c D A 5 0 0 Qm [(o, .inr (10, [.ref o_text, .int v_length, .ref o_now, .ref o_trial, .ref o_diary, .int v_acts, .int v_next, .ref o_kept, .ref o_isKept, .ref o_knownPlace, .ref o_knownLetter, .int v_known, .long v_seed, .int v_wide, .int v_bits, .int v_parity, .int v_stops, .int v_idle, .int v_frames, .int v_failed, .int v_failedAt, .int v_margin, .ref o_letters, .ref o_starts, .int v_bestFrames, .ref o_bestLetters, .int v_alike, .int v_fitting, .ref o_deep, .ref o_worth, .int v_readLevel, .int v_readMany, .ref o_readTicks, .int v_part, .int v_ten])), (o_deep, .inl (cI, 360, .inl v_deep)), (o_a1, .inl (cI, 361, .inl v_a1))] [(0, .ref o), (1, .ref o_a1), (2, .int x2), (4, .int x4)] 94 [.int k0] := by
        intro x2 x4 k0 v_deep h
        unfold wX10_layDeep_94 at h
        refine g_istore_n C [(3, .int k0), (0, .ref o), (1, .ref o_a1), (2, .int x2), (4, .int x4)] dX10_layDeep_94 rfl (by decide) rfl ?_
        refine g_aload_n C 0 1 o dX10_layDeep_95 rfl rfl ?_
        refine g_get C 10 ix_10 0 _ rfl rfl 28 (by decide) wm_138 rfl (.ref o_deep) rfl dX10_layDeep_96 ?_
        refine g_iload C 4 4 x4 dX10_layDeep_99 rfl ?_
        refine g_iload_n C 3 0 k0 dX10_layDeep_101 rfl rfl ?_
        refine g_aload_n C 0 1 o dX10_layDeep_102 rfl rfl ?_
        refine g_get C 10 ix_10 0 _ rfl rfl 28 (by decide) wm_138 rfl (.ref o_deep) rfl dX10_layDeep_103 ?_
        refine g_iload C 4 4 x4 dX10_layDeep_106 rfl ?_
        obtain ⟨hi15, h⟩ := h
        refine g_iald C 1 0 cI 360 v_deep rfl rfl hi15 dX10_layDeep_108 ?_
        refine g_icmp_ge C 116 dX10_layDeep_109 (by decide) (fun c16 => ?_) (fun c16 => ?_)
        rotate_left
        · have h := wp_f c16 h
          refine g_iload_n C 3 0 k0 dX10_layDeep_112 rfl rfl ?_
          refine g_goto C 123 dX10_layDeep_113 (by decide) ?_
          refine g_lv [1, 2, 3, 0, 4] rfl ?_
          exact H123  x2 k0 x4 x4 k0 v_deep h
        have h := wp_t c16 h
        refine g_aload_n C 0 1 o dX10_layDeep_116 rfl rfl ?_
        refine g_get C 10 ix_10 0 _ rfl rfl 28 (by decide) wm_138 rfl (.ref o_deep) rfl dX10_layDeep_117 ?_
        refine g_iload C 4 4 x4 dX10_layDeep_120 rfl ?_
        obtain ⟨hi17, h⟩ := h
        refine g_iald C 1 0 cI 360 v_deep rfl rfl hi17 dX10_layDeep_122 ?_
        refine g_lv [1, 2, 3, 0, 4] rfl ?_
        exact H123  x2 k0 x4 x4 (v_deep (ix x4)) v_deep h
      have H93 : ∀ (x2 : Int32) (x4 : Int32) (v_deep : (Nat → Int32)), wX10_layDeep_93 fu v_a1 Q (wX10_layDeep_61 fu v_a1 Q n61) x2 x4 v_deep → G p l e rmX10_layDeep s m args below meth c D A 5 0 0 Qm [(o, .inr (10, [.ref o_text, .int v_length, .ref o_now, .ref o_trial, .ref o_diary, .int v_acts, .int v_next, .ref o_kept, .ref o_isKept, .ref o_knownPlace, .ref o_knownLetter, .int v_known, .long v_seed, .int v_wide, .int v_bits, .int v_parity, .int v_stops, .int v_idle, .int v_frames, .int v_failed, .int v_failedAt, .int v_margin, .ref o_letters, .ref o_starts, .int v_bestFrames, .ref o_bestLetters, .int v_alike, .int v_fitting, .ref o_deep, .ref o_worth, .int v_readLevel, .int v_readMany, .ref o_readTicks, .int v_part, .int v_ten])), (o_deep, .inl (cI, 360, .inl v_deep)), (o_a1, .inl (cI, 361, .inl v_a1))] [(0, .ref o), (1, .ref o_a1), (2, .int x2), (4, .int x4)] 93 [] := by
        intro x2 x4 v_deep h
        unfold wX10_layDeep_93 at h
        refine g_iconst C (0 : Int32) dX10_layDeep_93 rfl ?_
        refine g_lv [0, 1, 2, 3] rfl ?_
        exact H94  x2 x4 (0 : Int32) v_deep h
      intro x2 x3 x4 v_deep h
      unfold wX10_layDeep_61 at h
      refine g_iload C 4 4 x4 dX10_layDeep_61 rfl ?_
      refine g_if_lt C 130 dX10_layDeep_63 (by decide) (fun c10 => ?_) (fun c10 => ?_)
      · have h := wp_t c10 h
        exact hret v_deep _ _ _ dX10_layDeep_130 h rfl
      have h := wp_f c10 h
      refine g_iload C 4 4 x4 dX10_layDeep_66 rfl ?_
      refine g_iload_n C 2 2 x2 dX10_layDeep_68 rfl rfl ?_
      refine g_iconst C (1 : Int32) dX10_layDeep_69 rfl ?_
      refine g_isub C dX10_layDeep_70 ?_
      refine g_icmp_ge C 93 dX10_layDeep_71 (by decide) (fun c11 => ?_) (fun c11 => ?_)
      · have h := wp_t c11 h
        refine g_lv [0, 1, 2, 4] rfl ?_
        exact H93  x2 x4 v_deep h
      have h := wp_f c11 h
      refine g_aload_n C 1 1 o_a1 dX10_layDeep_74 rfl rfl ?_
      refine g_iload C 4 4 x4 dX10_layDeep_75 rfl ?_
      obtain ⟨hi12, h⟩ := h
      refine g_iald C 2 0 cI 361 v_a1 rfl rfl hi12 dX10_layDeep_77 ?_
      refine g_aload_n C 1 1 o_a1 dX10_layDeep_78 rfl rfl ?_
      refine g_iload C 4 4 x4 dX10_layDeep_79 rfl ?_
      refine g_iconst C (1 : Int32) dX10_layDeep_81 rfl ?_
      refine g_iadd C dX10_layDeep_82 ?_
      obtain ⟨hi13, h⟩ := h
      refine g_iald C 2 0 cI 361 v_a1 rfl rfl hi13 dX10_layDeep_83 ?_
      refine g_icmp_ne C 93 dX10_layDeep_84 (by decide) (fun c14 => ?_) (fun c14 => ?_)
      · have h := wp_f c14 h
        refine g_lv [0, 1, 2, 4] rfl ?_
        exact H93  x2 x4 v_deep h
      have h := wp_t c14 h
      refine g_iload_n C 3 3 x3 dX10_layDeep_87 rfl rfl ?_
      refine g_iconst C (1 : Int32) dX10_layDeep_88 rfl ?_
      refine g_iadd C dX10_layDeep_89 ?_
      refine g_goto C 94 dX10_layDeep_90 (by decide) ?_
      refine g_lv [0, 1, 2, 4] rfl ?_
      exact H94  x2 x4 (x3 + (1 : Int32)) v_deep h
  have H8 : ∀ (n8 : Nat) (x2 : Int32) (x3 : Int32) (v_deep : (Nat → Int32)), wX10_layDeep_8 fu v_a1 Q n8 x2 x3 v_deep → G p l e rmX10_layDeep s m args below meth c D A 5 0 0 Qm [(o, .inr (10, [.ref o_text, .int v_length, .ref o_now, .ref o_trial, .ref o_diary, .int v_acts, .int v_next, .ref o_kept, .ref o_isKept, .ref o_knownPlace, .ref o_knownLetter, .int v_known, .long v_seed, .int v_wide, .int v_bits, .int v_parity, .int v_stops, .int v_idle, .int v_frames, .int v_failed, .int v_failedAt, .int v_margin, .ref o_letters, .ref o_starts, .int v_bestFrames, .ref o_bestLetters, .int v_alike, .int v_fitting, .ref o_deep, .ref o_worth, .int v_readLevel, .int v_readMany, .ref o_readTicks, .int v_part, .int v_ten])), (o_deep, .inl (cI, 360, .inl v_deep)), (o_a1, .inl (cI, 361, .inl v_a1))] [(0, .ref o), (1, .ref o_a1), (2, .int x2), (3, .int x3)] 8 [] := by
    intro n8
    induction n8 with
    | zero => intro x2 x3 v_deep h; exact False.elim h
    | succ n8 ih8 =>
      have H47 : ∀ (x2 : Int32) (x3 : Int32) (k1 : Int32) (k2 : Int32) (v_deep : (Nat → Int32)), wX10_layDeep_47 fu v_a1 Q (wX10_layDeep_8 fu v_a1 Q n8) x2 x3 k1 k2 v_deep → G p l e rmX10_layDeep s m args below meth c D A 5 0 0 Qm [(o, .inr (10, [.ref o_text, .int v_length, .ref o_now, .ref o_trial, .ref o_diary, .int v_acts, .int v_next, .ref o_kept, .ref o_isKept, .ref o_knownPlace, .ref o_knownLetter, .int v_known, .long v_seed, .int v_wide, .int v_bits, .int v_parity, .int v_stops, .int v_idle, .int v_frames, .int v_failed, .int v_failedAt, .int v_margin, .ref o_letters, .ref o_starts, .int v_bestFrames, .ref o_bestLetters, .int v_alike, .int v_fitting, .ref o_deep, .ref o_worth, .int v_readLevel, .int v_readMany, .ref o_readTicks, .int v_part, .int v_ten])), (o_deep, .inl (cI, 360, .inl v_deep)), (o_a1, .inl (cI, 361, .inl v_a1))] [(0, .ref o), (1, .ref o_a1), (2, .int x2), (3, .int x3)] 47 [.int k2, .int k1, .ref o_deep] := by
        intro x2 x3 k1 k2 v_deep h
        unfold wX10_layDeep_47 at h
        obtain ⟨hi9, h⟩ := h
        refine g_iast C 1 0 cI 360 v_deep rfl rfl hi9 dX10_layDeep_47 [(o, .inr (10, [.ref o_text, .int v_length, .ref o_now, .ref o_trial, .ref o_diary, .int v_acts, .int v_next, .ref o_kept, .ref o_isKept, .ref o_knownPlace, .ref o_knownLetter, .int v_known, .long v_seed, .int v_wide, .int v_bits, .int v_parity, .int v_stops, .int v_idle, .int v_frames, .int v_failed, .int v_failedAt, .int v_margin, .ref o_letters, .ref o_starts, .int v_bestFrames, .ref o_bestLetters, .int v_alike, .int v_fitting, .ref o_deep, .ref o_worth, .int v_readLevel, .int v_readMany, .ref o_readTicks, .int v_part, .int v_ten])), (o_deep, .inl (cI, 360, .inl (upd v_deep (ix k1) k2))), (o_a1, .inl (cI, 361, .inl v_a1))] rfl ?_
        refine g_iinc C 3 x3 (x3 + (1 : Int32)) [(3, .int (x3 + (1 : Int32))), (0, .ref o), (1, .ref o_a1), (2, .int x2)] dX10_layDeep_48 rfl rfl (by decide) rfl ?_
        refine g_goto C 8 dX10_layDeep_51 (by decide) ?_
        refine g_lv [1, 2, 3, 0] rfl ?_
        exact ih8  x2 (x3 + (1 : Int32)) (upd v_deep (ix k1) k2) h
      have H46 : ∀ (x2 : Int32) (x3 : Int32) (k1 : Int32) (v_deep : (Nat → Int32)), wX10_layDeep_46 fu v_a1 Q (wX10_layDeep_8 fu v_a1 Q n8) x2 x3 k1 v_deep → G p l e rmX10_layDeep s m args below meth c D A 5 0 0 Qm [(o, .inr (10, [.ref o_text, .int v_length, .ref o_now, .ref o_trial, .ref o_diary, .int v_acts, .int v_next, .ref o_kept, .ref o_isKept, .ref o_knownPlace, .ref o_knownLetter, .int v_known, .long v_seed, .int v_wide, .int v_bits, .int v_parity, .int v_stops, .int v_idle, .int v_frames, .int v_failed, .int v_failedAt, .int v_margin, .ref o_letters, .ref o_starts, .int v_bestFrames, .ref o_bestLetters, .int v_alike, .int v_fitting, .ref o_deep, .ref o_worth, .int v_readLevel, .int v_readMany, .ref o_readTicks, .int v_part, .int v_ten])), (o_deep, .inl (cI, 360, .inl v_deep)), (o_a1, .inl (cI, 361, .inl v_a1))] [(0, .ref o), (1, .ref o_a1), (2, .int x2), (3, .int x3)] 46 [.int k1, .ref o_deep] := by
        intro x2 x3 k1 v_deep h
        unfold wX10_layDeep_46 at h
        refine g_iconst C (0 : Int32) dX10_layDeep_46 rfl ?_
        refine g_lv [0, 1, 2, 3] rfl ?_
        exact H47  x2 x3 k1 (0 : Int32) v_deep h
      intro x2 x3 v_deep h
      unfold wX10_layDeep_8 at h
      refine g_iload_n C 3 3 x3 dX10_layDeep_8 rfl rfl ?_
      refine g_iload_n C 2 2 x2 dX10_layDeep_9 rfl rfl ?_
      refine g_icmp_ge C 54 dX10_layDeep_10 (by decide) (fun c2 => ?_) (fun c2 => ?_)
      · have h := wp_t c2 h
        refine g_iconst C (0 : Int32) dX10_layDeep_54 rfl ?_
        refine g_istore_n C [(3, .int (0 : Int32)), (0, .ref o), (1, .ref o_a1), (2, .int x2)] dX10_layDeep_55 rfl (by decide) rfl ?_
        refine g_iload_n C 2 3 x2 dX10_layDeep_56 rfl rfl ?_
        refine g_iconst C (1 : Int32) dX10_layDeep_57 rfl ?_
        refine g_isub C dX10_layDeep_58 ?_
        refine g_topi (fun y3 ey3 => ?_)
        have h := h y3 ey3
        refine g_istore C [(4, .int y3), (3, .int (0 : Int32)), (0, .ref o), (1, .ref o_a1), (2, .int x2)] dX10_layDeep_59 (by decide) rfl ?_
        refine g_lv [2, 3, 4, 1, 0] rfl ?_
        exact H61 fu  x2 (0 : Int32) y3 v_deep h
      have h := wp_f c2 h
      refine g_aload_n C 0 0 o dX10_layDeep_13 rfl rfl ?_
      refine g_get C 10 ix_10 0 _ rfl rfl 28 (by decide) wm_138 rfl (.ref o_deep) rfl dX10_layDeep_14 ?_
      refine g_iload_n C 3 3 x3 dX10_layDeep_17 rfl rfl ?_
      refine g_iload_n C 3 3 x3 dX10_layDeep_18 rfl rfl ?_
      refine g_if_le C 46 dX10_layDeep_19 (by decide) (fun c4 => ?_) (fun c4 => ?_)
      · have h := wp_t c4 h
        refine g_lv [0, 1, 2, 3] rfl ?_
        exact H46  x2 x3 x3 v_deep h
      have h := wp_f c4 h
      refine g_aload_n C 1 1 o_a1 dX10_layDeep_22 rfl rfl ?_
      refine g_iload_n C 3 3 x3 dX10_layDeep_23 rfl rfl ?_
      obtain ⟨hi5, h⟩ := h
      refine g_iald C 2 0 cI 361 v_a1 rfl rfl hi5 dX10_layDeep_24 ?_
      refine g_aload_n C 1 1 o_a1 dX10_layDeep_25 rfl rfl ?_
      refine g_iload_n C 3 3 x3 dX10_layDeep_26 rfl rfl ?_
      refine g_iconst C (1 : Int32) dX10_layDeep_27 rfl ?_
      refine g_isub C dX10_layDeep_28 ?_
      obtain ⟨hi6, h⟩ := h
      refine g_iald C 2 0 cI 361 v_a1 rfl rfl hi6 dX10_layDeep_29 ?_
      refine g_icmp_ne C 46 dX10_layDeep_30 (by decide) (fun c7 => ?_) (fun c7 => ?_)
      · have h := wp_f c7 h
        refine g_lv [0, 1, 2, 3] rfl ?_
        exact H46  x2 x3 x3 v_deep h
      have h := wp_t c7 h
      refine g_aload_n C 0 0 o dX10_layDeep_33 rfl rfl ?_
      refine g_get C 10 ix_10 0 _ rfl rfl 28 (by decide) wm_138 rfl (.ref o_deep) rfl dX10_layDeep_34 ?_
      refine g_iload_n C 3 3 x3 dX10_layDeep_37 rfl rfl ?_
      refine g_iconst C (1 : Int32) dX10_layDeep_38 rfl ?_
      refine g_isub C dX10_layDeep_39 ?_
      obtain ⟨hi8, h⟩ := h
      refine g_iald C 1 0 cI 360 v_deep rfl rfl hi8 dX10_layDeep_40 ?_
      refine g_iconst C (1 : Int32) dX10_layDeep_41 rfl ?_
      refine g_iadd C dX10_layDeep_42 ?_
      refine g_goto C 47 dX10_layDeep_43 (by decide) ?_
      refine g_lv [0, 1, 2, 3] rfl ?_
      exact H47  x2 x3 x3 ((v_deep (ix (x3 - (1 : Int32)))) + (1 : Int32)) v_deep h
  unfold wp_X10_layDeep at h
  refine g_aload_n C 1 1 o_a1 dX10_layDeep_0 rfl rfl ?_
  refine g_sipush C (360 : Int32) dX10_layDeep_1 rfl ?_
  refine g_iald C 2 0 cI 361 v_a1 rfl rfl (vp_in_dec rfl) dX10_layDeep_4 ?_
  refine g_topi (fun y1 ey1 => ?_)
  have h := h y1 ey1
  refine g_istore_n C [(2, .int y1), (0, .ref o), (1, .ref o_a1)] dX10_layDeep_5 rfl (by decide) rfl ?_
  refine g_iconst C (0 : Int32) dX10_layDeep_6 rfl ?_
  refine g_istore_n C [(3, .int (0 : Int32)), (2, .int y1), (0, .ref o), (1, .ref o_a1)] dX10_layDeep_7 rfl (by decide) rfl ?_
  refine g_lv [2, 3, 1, 0] rfl ?_
  exact H8 fu  y1 (0 : Int32) v_deep h
abbrev rmX10_codeOf : Room := { frames := 0, cells := 0, slots := 0, locals := 0 }
def wp_X10_codeOf (fu : Nat) (x0 : Int32) (Q : Int32 → Prop) : Prop := Q ((((((10000 : Int32) * ((x0 / (48 : Int32)) + (1 : Int32))) + ((1000 : Int32) * ((irm (x0 / (12 : Int32)) (4 : Int32)) + (5 : Int32)))) + ((100 : Int32) * (irm (x0 / (4 : Int32)) (3 : Int32)))) + ((10 : Int32) * ((irm (x0 / (2 : Int32)) (2 : Int32)) + (1 : Int32)))) + (irm x0 (2 : Int32)))
set_option maxHeartbeats 4000000 in
set_option maxRecDepth 100000 in
theorem c_X10_codeOf (l : Launch) (D : va_G) (cI cJ cZ cW : ClassId) (x0 : Int32) (fu : Nat) (Q : Int32 → Prop) (h : wp_X10_codeOf fu x0 Q) : CtI l yX10_codeOf wkX10_codeOf rmX10_codeOf D (tys4 cI cJ cZ cW) [.int x0] [] (fun (r : Int32) (u : Unit) => Q r ) (fun (_ : Unit) => []) := by
  refine CtI.of (S := Unit) (y := yX10_codeOf) (Tc := wkX10_codeOf) (rm := rmX10_codeOf) (D := D) (tys := tys4 cI cJ cZ cW) (av := [.int x0]) (wc := []) (post := (fun (r : Int32) (u : Unit) => Q r )) (w1 := (fun (_ : Unit) => [])) (cc := cX10_codeOf) (maxL := 1) RX10 rfl (by decide +kernel) rfl rfl [(0, .int x0)] rfl ?_
  intro p e s m args below meth c A Qm C hret
  unfold wp_X10_codeOf at h
  refine g_sipush C (10000 : Int32) dX10_codeOf_0 rfl ?_
  refine g_iload_n C 0 0 x0 dX10_codeOf_3 rfl rfl ?_
  refine g_bipush C (48 : Int32) dX10_codeOf_4 rfl ?_
  refine g_idiv C (by decide) dX10_codeOf_6 ?_
  refine g_iconst C (1 : Int32) dX10_codeOf_7 rfl ?_
  refine g_iadd C dX10_codeOf_8 ?_
  refine g_imul C dX10_codeOf_9 ?_
  refine g_sipush C (1000 : Int32) dX10_codeOf_10 rfl ?_
  refine g_iload_n C 0 0 x0 dX10_codeOf_13 rfl rfl ?_
  refine g_bipush C (12 : Int32) dX10_codeOf_14 rfl ?_
  refine g_idiv C (by decide) dX10_codeOf_16 ?_
  refine g_iconst C (4 : Int32) dX10_codeOf_17 rfl ?_
  refine g_irem C (by decide) dX10_codeOf_18 ?_
  refine g_iconst C (5 : Int32) dX10_codeOf_19 rfl ?_
  refine g_iadd C dX10_codeOf_20 ?_
  refine g_imul C dX10_codeOf_21 ?_
  refine g_iadd C dX10_codeOf_22 ?_
  refine g_bipush C (100 : Int32) dX10_codeOf_23 rfl ?_
  refine g_iload_n C 0 0 x0 dX10_codeOf_25 rfl rfl ?_
  refine g_iconst C (4 : Int32) dX10_codeOf_26 rfl ?_
  refine g_idiv C (by decide) dX10_codeOf_27 ?_
  refine g_iconst C (3 : Int32) dX10_codeOf_28 rfl ?_
  refine g_irem C (by decide) dX10_codeOf_29 ?_
  refine g_imul C dX10_codeOf_30 ?_
  refine g_iadd C dX10_codeOf_31 ?_
  refine g_bipush C (10 : Int32) dX10_codeOf_32 rfl ?_
  refine g_iload_n C 0 0 x0 dX10_codeOf_34 rfl rfl ?_
  refine g_iconst C (2 : Int32) dX10_codeOf_35 rfl ?_
  refine g_idiv C (by decide) dX10_codeOf_36 ?_
  refine g_iconst C (2 : Int32) dX10_codeOf_37 rfl ?_
  refine g_irem C (by decide) dX10_codeOf_38 ?_
  refine g_iconst C (1 : Int32) dX10_codeOf_39 rfl ?_
  refine g_iadd C dX10_codeOf_40 ?_
  refine g_imul C dX10_codeOf_41 ?_
  refine g_iadd C dX10_codeOf_42 ?_
  refine g_iload_n C 0 0 x0 dX10_codeOf_43 rfl rfl ?_
  refine g_iconst C (2 : Int32) dX10_codeOf_44 rfl ?_
  refine g_irem C (by decide) dX10_codeOf_45 ?_
  refine g_iadd C dX10_codeOf_46 ?_
  exact hret _ () _ _ _ dX10_codeOf_47 h rfl
abbrev rmX10_isAsBest : Room := { frames := 0, cells := 0, slots := 0, locals := 0 }
def wX10_isAsBest_51 (fu : Nat) (v_bestFrames : Int32) (v_frames : Int32) (v_bestLetters : (Nat → Int32)) (v_letters : (Nat → Int32)) (Q : Int32 → Prop) (K19 : Int32 → Int32 → Prop) (x2 : Int32) (k0 : Int32) : Prop := K19 k0 (x2 + (1 : Int32))
def wX10_isAsBest_19 (fu : Nat) (v_bestFrames : Int32) (v_frames : Int32) (v_bestLetters : (Nat → Int32)) (v_letters : (Nat → Int32)) (Q : Int32 → Prop) : Nat → Int32 → Int32 → Prop
  | 0, _, _ => False
  | n0 + 1, x1, x2 => (if v_frames ≤ x2 then ((x1 = 0 ∨ x1 = 1) ∧ Q x1) else (if x1 = 0 then ((x1 = 0 ∨ x1 = 1) ∧ Q x1) else (vp_in x2 64 ∧ (vp_in x2 64 ∧ (if (v_letters (ix x2)) = (v_bestLetters (ix x2)) then wX10_isAsBest_51 fu v_bestFrames v_frames v_bestLetters v_letters Q (wX10_isAsBest_19 fu v_bestFrames v_frames v_bestLetters v_letters Q n0) x2 (1 : Int32) else wX10_isAsBest_51 fu v_bestFrames v_frames v_bestLetters v_letters Q (wX10_isAsBest_19 fu v_bestFrames v_frames v_bestLetters v_letters Q n0) x2 (0 : Int32))))))
def wX10_isAsBest_16 (fu : Nat) (v_bestFrames : Int32) (v_frames : Int32) (v_bestLetters : (Nat → Int32)) (v_letters : (Nat → Int32)) (Q : Int32 → Prop) (k0 : Int32) : Prop := wX10_isAsBest_19 fu v_bestFrames v_frames v_bestLetters v_letters Q fu k0 (0 : Int32)
def wp_X10_isAsBest (fu : Nat) (v_bestFrames : Int32) (v_frames : Int32) (v_bestLetters : (Nat → Int32)) (v_letters : (Nat → Int32)) (Q : Int32 → Prop) : Prop := (if v_frames = v_bestFrames then wX10_isAsBest_16 fu v_bestFrames v_frames v_bestLetters v_letters Q (1 : Int32) else wX10_isAsBest_16 fu v_bestFrames v_frames v_bestLetters v_letters Q (0 : Int32))
set_option maxHeartbeats 4000000 in
set_option maxRecDepth 100000 in
theorem c_X10_isAsBest (l : Launch) (D : va_G) (cI cJ cZ cW : ClassId) (o o_text o_now o_trial o_diary o_kept o_isKept o_knownPlace o_knownLetter o_letters o_starts o_bestLetters o_deep o_worth o_readTicks : Nat) (v_length : Int32) (v_acts : Int32) (v_next : Int32) (v_known : Int32) (v_seed : Int64) (v_wide : Int32) (v_bits : Int32) (v_parity : Int32) (v_stops : Int32) (v_idle : Int32) (v_frames : Int32) (v_failed : Int32) (v_failedAt : Int32) (v_margin : Int32) (v_bestFrames : Int32) (v_alike : Int32) (v_fitting : Int32) (v_readLevel : Int32) (v_readMany : Int32) (v_part : Int32) (v_ten : Int32) (v_bestLetters : (Nat → Int32)) (v_letters : (Nat → Int32)) (fu : Nat) (Q : Int32 → Prop) (h : wp_X10_isAsBest fu v_bestFrames v_frames v_bestLetters v_letters Q) : CtI l yX10_isAsBest wkX10_isAsBest rmX10_isAsBest D (tys4 cI cJ cZ cW) [.ref o] [(o, .inr (10, [.ref o_text, .int v_length, .ref o_now, .ref o_trial, .ref o_diary, .int v_acts, .int v_next, .ref o_kept, .ref o_isKept, .ref o_knownPlace, .ref o_knownLetter, .int v_known, .long v_seed, .int v_wide, .int v_bits, .int v_parity, .int v_stops, .int v_idle, .int v_frames, .int v_failed, .int v_failedAt, .int v_margin, .ref o_letters, .ref o_starts, .int v_bestFrames, .ref o_bestLetters, .int v_alike, .int v_fitting, .ref o_deep, .ref o_worth, .int v_readLevel, .int v_readMany, .ref o_readTicks, .int v_part, .int v_ten])), (o_bestLetters, .inl (cI, 64, .inl v_bestLetters)), (o_letters, .inl (cI, 64, .inl v_letters))] (fun (r : Int32) (u : Unit) => (r = 0 ∨ r = 1) ∧ (fun (r : Int32) (u : Unit) => Q r ) r u) (fun (_ : Unit) => [(o, .inr (10, [.ref o_text, .int v_length, .ref o_now, .ref o_trial, .ref o_diary, .int v_acts, .int v_next, .ref o_kept, .ref o_isKept, .ref o_knownPlace, .ref o_knownLetter, .int v_known, .long v_seed, .int v_wide, .int v_bits, .int v_parity, .int v_stops, .int v_idle, .int v_frames, .int v_failed, .int v_failedAt, .int v_margin, .ref o_letters, .ref o_starts, .int v_bestFrames, .ref o_bestLetters, .int v_alike, .int v_fitting, .ref o_deep, .ref o_worth, .int v_readLevel, .int v_readMany, .ref o_readTicks, .int v_part, .int v_ten])), (o_bestLetters, .inl (cI, 64, .inl v_bestLetters)), (o_letters, .inl (cI, 64, .inl v_letters))]) := by
  refine CtI.ofZ (S := Unit) (y := yX10_isAsBest) (Tc := wkX10_isAsBest) (rm := rmX10_isAsBest) (D := D) (tys := tys4 cI cJ cZ cW) (av := [.ref o]) (wc := [(o, .inr (10, [.ref o_text, .int v_length, .ref o_now, .ref o_trial, .ref o_diary, .int v_acts, .int v_next, .ref o_kept, .ref o_isKept, .ref o_knownPlace, .ref o_knownLetter, .int v_known, .long v_seed, .int v_wide, .int v_bits, .int v_parity, .int v_stops, .int v_idle, .int v_frames, .int v_failed, .int v_failedAt, .int v_margin, .ref o_letters, .ref o_starts, .int v_bestFrames, .ref o_bestLetters, .int v_alike, .int v_fitting, .ref o_deep, .ref o_worth, .int v_readLevel, .int v_readMany, .ref o_readTicks, .int v_part, .int v_ten])), (o_bestLetters, .inl (cI, 64, .inl v_bestLetters)), (o_letters, .inl (cI, 64, .inl v_letters))]) (post := (fun (r : Int32) (u : Unit) => Q r )) (w1 := (fun (_ : Unit) => [(o, .inr (10, [.ref o_text, .int v_length, .ref o_now, .ref o_trial, .ref o_diary, .int v_acts, .int v_next, .ref o_kept, .ref o_isKept, .ref o_knownPlace, .ref o_knownLetter, .int v_known, .long v_seed, .int v_wide, .int v_bits, .int v_parity, .int v_stops, .int v_idle, .int v_frames, .int v_failed, .int v_failedAt, .int v_margin, .ref o_letters, .ref o_starts, .int v_bestFrames, .ref o_bestLetters, .int v_alike, .int v_fitting, .ref o_deep, .ref o_worth, .int v_readLevel, .int v_readMany, .ref o_readTicks, .int v_part, .int v_ten])), (o_bestLetters, .inl (cI, 64, .inl v_bestLetters)), (o_letters, .inl (cI, 64, .inl v_letters))])) (cc := cX10_isAsBest) (maxL := 3) RX10 rfl (by decide +kernel) rfl rfl [(0, .ref o)] rfl ?_
  intro p e s m args below meth c A Qm C hret
  have H19 : ∀ (n19 : Nat) (x1 : Int32) (x2 : Int32), wX10_isAsBest_19 fu v_bestFrames v_frames v_bestLetters v_letters Q n19 x1 x2 → G p l e rmX10_isAsBest s m args below meth c D A 3 0 0 Qm [(o, .inr (10, [.ref o_text, .int v_length, .ref o_now, .ref o_trial, .ref o_diary, .int v_acts, .int v_next, .ref o_kept, .ref o_isKept, .ref o_knownPlace, .ref o_knownLetter, .int v_known, .long v_seed, .int v_wide, .int v_bits, .int v_parity, .int v_stops, .int v_idle, .int v_frames, .int v_failed, .int v_failedAt, .int v_margin, .ref o_letters, .ref o_starts, .int v_bestFrames, .ref o_bestLetters, .int v_alike, .int v_fitting, .ref o_deep, .ref o_worth, .int v_readLevel, .int v_readMany, .ref o_readTicks, .int v_part, .int v_ten])), (o_bestLetters, .inl (cI, 64, .inl v_bestLetters)), (o_letters, .inl (cI, 64, .inl v_letters))] [(0, .ref o), (1, .int x1), (2, .int x2)] 19 [] := by
    intro n19
    induction n19 with
    | zero => intro x1 x2 h; exact False.elim h
    | succ n19 ih19 =>
      have H51 : ∀ (x2 : Int32) (k0 : Int32), wX10_isAsBest_51 fu v_bestFrames v_frames v_bestLetters v_letters Q (wX10_isAsBest_19 fu v_bestFrames v_frames v_bestLetters v_letters Q n19) x2 k0 → G p l e rmX10_isAsBest s m args below meth c D A 3 0 0 Qm [(o, .inr (10, [.ref o_text, .int v_length, .ref o_now, .ref o_trial, .ref o_diary, .int v_acts, .int v_next, .ref o_kept, .ref o_isKept, .ref o_knownPlace, .ref o_knownLetter, .int v_known, .long v_seed, .int v_wide, .int v_bits, .int v_parity, .int v_stops, .int v_idle, .int v_frames, .int v_failed, .int v_failedAt, .int v_margin, .ref o_letters, .ref o_starts, .int v_bestFrames, .ref o_bestLetters, .int v_alike, .int v_fitting, .ref o_deep, .ref o_worth, .int v_readLevel, .int v_readMany, .ref o_readTicks, .int v_part, .int v_ten])), (o_bestLetters, .inl (cI, 64, .inl v_bestLetters)), (o_letters, .inl (cI, 64, .inl v_letters))] [(0, .ref o), (2, .int x2)] 51 [.int k0] := by
        intro x2 k0 h
        unfold wX10_isAsBest_51 at h
        refine g_istore_n C [(1, .int k0), (0, .ref o), (2, .int x2)] dX10_isAsBest_51 rfl (by decide) rfl ?_
        refine g_iinc C 2 x2 (x2 + (1 : Int32)) [(2, .int (x2 + (1 : Int32))), (1, .int k0), (0, .ref o)] dX10_isAsBest_52 rfl rfl (by decide) rfl ?_
        refine g_goto C 19 dX10_isAsBest_55 (by decide) ?_
        refine g_lv [2, 1, 0] rfl ?_
        exact ih19  k0 (x2 + (1 : Int32)) h
      intro x1 x2 h
      unfold wX10_isAsBest_19 at h
      refine g_iload_n C 2 2 x2 dX10_isAsBest_19 rfl rfl ?_
      refine g_aload_n C 0 0 o dX10_isAsBest_20 rfl rfl ?_
      refine g_get C 10 ix_10 0 _ rfl rfl 18 (by decide) wm_396 rfl (.int v_frames) rfl dX10_isAsBest_21 ?_
      refine g_icmp_ge C 58 dX10_isAsBest_24 (by decide) (fun c2 => ?_) (fun c2 => ?_)
      · have h := wp_t c2 h
        refine g_iload_n C 1 1 x1 dX10_isAsBest_58 rfl rfl ?_
        exact hret _ () _ _ _ h.1 dX10_isAsBest_59 h.2 rfl
      have h := wp_f c2 h
      refine g_iload_n C 1 1 x1 dX10_isAsBest_27 rfl rfl ?_
      refine g_if_eq C 58 dX10_isAsBest_28 (by decide) (fun c3 => ?_) (fun c3 => ?_)
      · have h := wp_t c3 h
        refine g_iload_n C 1 1 x1 dX10_isAsBest_58 rfl rfl ?_
        exact hret _ () _ _ _ h.1 dX10_isAsBest_59 h.2 rfl
      have h := wp_f c3 h
      refine g_aload_n C 0 0 o dX10_isAsBest_31 rfl rfl ?_
      refine g_get C 10 ix_10 0 _ rfl rfl 22 (by decide) wm_135 rfl (.ref o_letters) rfl dX10_isAsBest_32 ?_
      refine g_iload_n C 2 2 x2 dX10_isAsBest_35 rfl rfl ?_
      obtain ⟨hi4, h⟩ := h
      refine g_iald C 2 0 cI 64 v_letters rfl rfl hi4 dX10_isAsBest_36 ?_
      refine g_aload_n C 0 0 o dX10_isAsBest_37 rfl rfl ?_
      refine g_get C 10 ix_10 0 _ rfl rfl 25 (by decide) wm_137 rfl (.ref o_bestLetters) rfl dX10_isAsBest_38 ?_
      refine g_iload_n C 2 2 x2 dX10_isAsBest_41 rfl rfl ?_
      obtain ⟨hi5, h⟩ := h
      refine g_iald C 1 0 cI 64 v_bestLetters rfl rfl hi5 dX10_isAsBest_42 ?_
      refine g_icmp_ne C 50 dX10_isAsBest_43 (by decide) (fun c6 => ?_) (fun c6 => ?_)
      · have h := wp_f c6 h
        refine g_iconst C (0 : Int32) dX10_isAsBest_50 rfl ?_
        refine g_lv [0, 2] rfl ?_
        exact H51  x2 (0 : Int32) h
      have h := wp_t c6 h
      refine g_iconst C (1 : Int32) dX10_isAsBest_46 rfl ?_
      refine g_goto C 51 dX10_isAsBest_47 (by decide) ?_
      refine g_lv [0, 2] rfl ?_
      exact H51  x2 (1 : Int32) h
  have H16 : ∀ (k0 : Int32), wX10_isAsBest_16 fu v_bestFrames v_frames v_bestLetters v_letters Q k0 → G p l e rmX10_isAsBest s m args below meth c D A 3 0 0 Qm [(o, .inr (10, [.ref o_text, .int v_length, .ref o_now, .ref o_trial, .ref o_diary, .int v_acts, .int v_next, .ref o_kept, .ref o_isKept, .ref o_knownPlace, .ref o_knownLetter, .int v_known, .long v_seed, .int v_wide, .int v_bits, .int v_parity, .int v_stops, .int v_idle, .int v_frames, .int v_failed, .int v_failedAt, .int v_margin, .ref o_letters, .ref o_starts, .int v_bestFrames, .ref o_bestLetters, .int v_alike, .int v_fitting, .ref o_deep, .ref o_worth, .int v_readLevel, .int v_readMany, .ref o_readTicks, .int v_part, .int v_ten])), (o_bestLetters, .inl (cI, 64, .inl v_bestLetters)), (o_letters, .inl (cI, 64, .inl v_letters))] [(0, .ref o)] 16 [.int k0] := by
    intro k0 h
    unfold wX10_isAsBest_16 at h
    refine g_istore_n C [(1, .int k0), (0, .ref o)] dX10_isAsBest_16 rfl (by decide) rfl ?_
    refine g_iconst C (0 : Int32) dX10_isAsBest_17 rfl ?_
    refine g_istore_n C [(2, .int (0 : Int32)), (1, .int k0), (0, .ref o)] dX10_isAsBest_18 rfl (by decide) rfl ?_
    refine g_lv [2, 1, 0] rfl ?_
    exact H19 fu  k0 (0 : Int32) h
  unfold wp_X10_isAsBest at h
  refine g_aload_n C 0 0 o dX10_isAsBest_0 rfl rfl ?_
  refine g_get C 10 ix_10 0 _ rfl rfl 18 (by decide) wm_396 rfl (.int v_frames) rfl dX10_isAsBest_1 ?_
  refine g_aload_n C 0 0 o dX10_isAsBest_4 rfl rfl ?_
  refine g_get C 10 ix_10 0 _ rfl rfl 24 (by decide) wm_394 rfl (.int v_bestFrames) rfl dX10_isAsBest_5 ?_
  refine g_icmp_ne C 15 dX10_isAsBest_8 (by decide) (fun c1 => ?_) (fun c1 => ?_)
  · have h := wp_f c1 h
    refine g_iconst C (0 : Int32) dX10_isAsBest_15 rfl ?_
    refine g_lv [0] rfl ?_
    exact H16  (0 : Int32) h
  have h := wp_t c1 h
  refine g_iconst C (1 : Int32) dX10_isAsBest_11 rfl ?_
  refine g_goto C 16 dX10_isAsBest_12 (by decide) ?_
  refine g_lv [0] rfl ?_
  exact H16  (1 : Int32) h
abbrev rmX10_best : Room := { frames := 4, cells := 0, slots := 0, locals := 97 }
def wX10_best_153 (fu : Nat) (v_a1 : (Nat → Int32)) (Q : Int32 → Int32 → Int32 → Int32 → Int32 → Int32 → Int32 → Int32 → Int32 → Int32 → Int32 → Int32 → (Nat → Int32) → (Nat → Int32) → (Nat → Int32) → (Nat → Int32) → Prop) (K23 : Int32 → Int32 → Int32 → Int32 → Int32 → Int32 → Int32 → Int32 → Int32 → Int32 → Int32 → Int32 → Int32 → Int32 → (Nat → Int32) → (Nat → Int32) → (Nat → Int32) → (Nat → Int32) → Prop) (x2 : Int32) (x3 : Int32) (x4 : Int32) (v_bestFrames : Int32) (v_bits : Int32) (v_failed : Int32) (v_failedAt : Int32) (v_fitting : Int32) (v_frames : Int32) (v_idle : Int32) (v_margin : Int32) (v_parity : Int32) (v_stops : Int32) (v_wide : Int32) (v_bestLetters : (Nat → Int32)) (v_deep : (Nat → Int32)) (v_letters : (Nat → Int32)) (v_starts : (Nat → Int32)) : Prop := K23 x2 x3 (x4 + (1 : Int32)) v_bestFrames v_bits v_failed v_failedAt v_fitting v_frames v_idle v_margin v_parity v_stops v_wide v_bestLetters v_deep v_letters v_starts
def wX10_best_124 (fu : Nat) (v_a1 : (Nat → Int32)) (Q : Int32 → Int32 → Int32 → Int32 → Int32 → Int32 → Int32 → Int32 → Int32 → Int32 → Int32 → Int32 → (Nat → Int32) → (Nat → Int32) → (Nat → Int32) → (Nat → Int32) → Prop) (K23 : Int32 → Int32 → Int32 → Int32 → Int32 → Int32 → Int32 → Int32 → Int32 → Int32 → Int32 → Int32 → Int32 → Int32 → (Nat → Int32) → (Nat → Int32) → (Nat → Int32) → (Nat → Int32) → Prop) : Nat → Int32 → Int32 → Int32 → Int32 → Int32 → Int32 → Int32 → Int32 → Int32 → Int32 → Int32 → Int32 → Int32 → Int32 → Int32 → (Nat → Int32) → (Nat → Int32) → (Nat → Int32) → (Nat → Int32) → Prop
  | 0, _, _, _, _, _, _, _, _, _, _, _, _, _, _, _, _, _, _, _ => False
  | n0 + 1, x2, x3, x4, x6, v_bestFrames, v_bits, v_failed, v_failedAt, v_fitting, v_frames, v_idle, v_margin, v_parity, v_stops, v_wide, v_bestLetters, v_deep, v_letters, v_starts => (if v_frames ≤ x6 then wX10_best_153 fu v_a1 Q K23 x2 x3 x4 v_bestFrames v_bits v_failed v_failedAt v_fitting v_frames v_idle v_margin v_parity v_stops v_wide v_bestLetters v_deep v_letters v_starts else (vp_in x6 64 ∧ (vp_in x6 64 ∧ (wX10_best_124 fu v_a1 Q K23 n0) x2 x3 x4 (x6 + (1 : Int32)) v_bestFrames v_bits v_failed v_failedAt v_fitting v_frames v_idle v_margin v_parity v_stops v_wide (upd v_bestLetters (ix x6) (v_letters (ix x6))) v_deep v_letters v_starts)))
def wX10_best_102 (fu : Nat) (v_a1 : (Nat → Int32)) (Q : Int32 → Int32 → Int32 → Int32 → Int32 → Int32 → Int32 → Int32 → Int32 → Int32 → Int32 → Int32 → (Nat → Int32) → (Nat → Int32) → (Nat → Int32) → (Nat → Int32) → Prop) (K23 : Int32 → Int32 → Int32 → Int32 → Int32 → Int32 → Int32 → Int32 → Int32 → Int32 → Int32 → Int32 → Int32 → Int32 → (Nat → Int32) → (Nat → Int32) → (Nat → Int32) → (Nat → Int32) → Prop) (x4 : Int32) (v_bestFrames : Int32) (v_bits : Int32) (v_failed : Int32) (v_failedAt : Int32) (v_fitting : Int32) (v_frames : Int32) (v_idle : Int32) (v_margin : Int32) (v_parity : Int32) (v_stops : Int32) (v_wide : Int32) (v_bestLetters : (Nat → Int32)) (v_deep : (Nat → Int32)) (v_letters : (Nat → Int32)) (v_starts : (Nat → Int32)) : Prop := wp_X10_codeOf fu x4 (fun (r23 : Int32) => wX10_best_124 fu v_a1 Q K23 fu r23 v_margin x4 (0 : Int32) v_frames v_bits v_failed v_failedAt v_fitting v_frames v_idle v_margin v_parity v_stops v_wide v_bestLetters v_deep v_letters v_starts)
def wX10_best_23 (fu : Nat) (v_a1 : (Nat → Int32)) (Q : Int32 → Int32 → Int32 → Int32 → Int32 → Int32 → Int32 → Int32 → Int32 → Int32 → Int32 → Int32 → (Nat → Int32) → (Nat → Int32) → (Nat → Int32) → (Nat → Int32) → Prop) : Nat → Int32 → Int32 → Int32 → Int32 → Int32 → Int32 → Int32 → Int32 → Int32 → Int32 → Int32 → Int32 → Int32 → Int32 → (Nat → Int32) → (Nat → Int32) → (Nat → Int32) → (Nat → Int32) → Prop
  | 0, _, _, _, _, _, _, _, _, _, _, _, _, _, _, _, _, _, _ => False
  | n0 + 1, x2, x3, x4, v_bestFrames, v_bits, v_failed, v_failedAt, v_fitting, v_frames, v_idle, v_margin, v_parity, v_stops, v_wide, v_bestLetters, v_deep, v_letters, v_starts => (if (768 : Int32) ≤ x4 then Q x2 v_bestFrames v_bits v_failed v_failedAt v_fitting v_frames v_idle v_margin v_parity v_stops v_wide v_bestLetters v_deep v_letters v_starts else wp_X10_codeOf fu x4 (fun (r3 : Int32) => wp_X10_layCode fu r3 v_bits v_idle v_parity v_stops v_wide (fun (r9 : Int32) (z4 : Int32) (z5 : Int32) (z6 : Int32) (z7 : Int32) (z8 : Int32) => wp_X10_read fu z4 z5 z6 z7 z8 v_deep v_a1 v_failed v_failedAt v_frames v_margin v_letters v_starts (fun (z10 : Int32) (z11 : Int32) (z12 : Int32) (z13 : Int32) (z14 : (Nat → Int32)) (z15 : (Nat → Int32)) => (if r9 = 0 then wX10_best_153 fu v_a1 Q (wX10_best_23 fu v_a1 Q n0) x2 x3 x4 v_bestFrames z4 z10 z11 v_fitting z12 z5 z13 z6 z7 z8 v_bestLetters v_deep z14 z15 else wp_X10_fits fu z10 z12 (fun (r17 : Int32) => (if r17 = 0 then wX10_best_153 fu v_a1 Q (wX10_best_23 fu v_a1 Q n0) x2 x3 x4 v_bestFrames z4 z10 z11 v_fitting z12 z5 z13 z6 z7 z8 v_bestLetters v_deep z14 z15 else (if x2 = (-9 : Int32) then wX10_best_102 fu v_a1 Q (wX10_best_23 fu v_a1 Q n0) x4 v_bestFrames z4 z10 z11 (v_fitting + (1 : Int32)) z12 z5 z13 z6 z7 z8 v_bestLetters v_deep z14 z15 else (if x3 < z13 then wX10_best_102 fu v_a1 Q (wX10_best_23 fu v_a1 Q n0) x4 v_bestFrames z4 z10 z11 (v_fitting + (1 : Int32)) z12 z5 z13 z6 z7 z8 v_bestLetters v_deep z14 z15 else (if z13 = x3 then (if z12 ≤ v_bestFrames then wX10_best_153 fu v_a1 Q (wX10_best_23 fu v_a1 Q n0) x2 x3 x4 v_bestFrames z4 z10 z11 (v_fitting + (1 : Int32)) z12 z5 z13 z6 z7 z8 v_bestLetters v_deep z14 z15 else wX10_best_102 fu v_a1 Q (wX10_best_23 fu v_a1 Q n0) x4 v_bestFrames z4 z10 z11 (v_fitting + (1 : Int32)) z12 z5 z13 z6 z7 z8 v_bestLetters v_deep z14 z15) else wX10_best_153 fu v_a1 Q (wX10_best_23 fu v_a1 Q n0) x2 x3 x4 v_bestFrames z4 z10 z11 (v_fitting + (1 : Int32)) z12 z5 z13 z6 z7 z8 v_bestLetters v_deep z14 z15))))))))))
def wp_X10_best (fu : Nat) (v_a1 : (Nat → Int32)) (v_bestFrames : Int32) (v_bits : Int32) (v_failed : Int32) (v_failedAt : Int32) (v_fitting : Int32) (v_frames : Int32) (v_idle : Int32) (v_margin : Int32) (v_parity : Int32) (v_stops : Int32) (v_wide : Int32) (v_bestLetters : (Nat → Int32)) (v_deep : (Nat → Int32)) (v_letters : (Nat → Int32)) (v_starts : (Nat → Int32)) (Q : Int32 → Int32 → Int32 → Int32 → Int32 → Int32 → Int32 → Int32 → Int32 → Int32 → Int32 → Int32 → (Nat → Int32) → (Nat → Int32) → (Nat → Int32) → (Nat → Int32) → Prop) : Prop := wp_X10_layDeep fu v_a1 v_deep (fun (z1 : (Nat → Int32)) => wX10_best_23 fu v_a1 Q fu (-9 : Int32) (0 : Int32) (0 : Int32) (0 : Int32) v_bits v_failed v_failedAt (0 : Int32) v_frames v_idle v_margin v_parity v_stops v_wide v_bestLetters z1 v_letters v_starts)
set_option maxHeartbeats 4000000 in
set_option maxRecDepth 100000 in
theorem c_X10_best (l : Launch) (D : va_G) (cI cJ cZ cW : ClassId) (o o_text o_now o_trial o_diary o_kept o_isKept o_knownPlace o_knownLetter o_letters o_starts o_bestLetters o_deep o_worth o_readTicks o_a1 : Nat) (v_length : Int32) (v_acts : Int32) (v_next : Int32) (v_known : Int32) (v_seed : Int64) (v_wide : Int32) (v_bits : Int32) (v_parity : Int32) (v_stops : Int32) (v_idle : Int32) (v_frames : Int32) (v_failed : Int32) (v_failedAt : Int32) (v_margin : Int32) (v_bestFrames : Int32) (v_alike : Int32) (v_fitting : Int32) (v_readLevel : Int32) (v_readMany : Int32) (v_part : Int32) (v_ten : Int32) (v_bestLetters : (Nat → Int32)) (v_deep : (Nat → Int32)) (v_letters : (Nat → Int32)) (v_starts : (Nat → Int32)) (v_a1 : (Nat → Int32)) (fu : Nat) (Q : Int32 → Int32 → Int32 → Int32 → Int32 → Int32 → Int32 → Int32 → Int32 → Int32 → Int32 → Int32 → (Nat → Int32) → (Nat → Int32) → (Nat → Int32) → (Nat → Int32) → Prop) (h : wp_X10_best fu v_a1 v_bestFrames v_bits v_failed v_failedAt v_fitting v_frames v_idle v_margin v_parity v_stops v_wide v_bestLetters v_deep v_letters v_starts Q) : CtI l yX10_best wkX10_best rmX10_best D (tys4 cI cJ cZ cW) [.ref o, .ref o_a1] [(o, .inr (10, [.ref o_text, .int v_length, .ref o_now, .ref o_trial, .ref o_diary, .int v_acts, .int v_next, .ref o_kept, .ref o_isKept, .ref o_knownPlace, .ref o_knownLetter, .int v_known, .long v_seed, .int v_wide, .int v_bits, .int v_parity, .int v_stops, .int v_idle, .int v_frames, .int v_failed, .int v_failedAt, .int v_margin, .ref o_letters, .ref o_starts, .int v_bestFrames, .ref o_bestLetters, .int v_alike, .int v_fitting, .ref o_deep, .ref o_worth, .int v_readLevel, .int v_readMany, .ref o_readTicks, .int v_part, .int v_ten])), (o_bestLetters, .inl (cI, 64, .inl v_bestLetters)), (o_deep, .inl (cI, 360, .inl v_deep)), (o_letters, .inl (cI, 64, .inl v_letters)), (o_starts, .inl (cI, 64, .inl v_starts)), (o_a1, .inl (cI, 361, .inl v_a1))] (fun (r : Int32) (u : Int32 × Int32 × Int32 × Int32 × Int32 × Int32 × Int32 × Int32 × Int32 × Int32 × Int32 × (Nat → Int32) × (Nat → Int32) × (Nat → Int32) × (Nat → Int32)) => Q r u.1 u.2.1 u.2.2.1 u.2.2.2.1 u.2.2.2.2.1 u.2.2.2.2.2.1 u.2.2.2.2.2.2.1 u.2.2.2.2.2.2.2.1 u.2.2.2.2.2.2.2.2.1 u.2.2.2.2.2.2.2.2.2.1 u.2.2.2.2.2.2.2.2.2.2.1 u.2.2.2.2.2.2.2.2.2.2.2.1 u.2.2.2.2.2.2.2.2.2.2.2.2.1 u.2.2.2.2.2.2.2.2.2.2.2.2.2.1 u.2.2.2.2.2.2.2.2.2.2.2.2.2.2) (fun (u : Int32 × Int32 × Int32 × Int32 × Int32 × Int32 × Int32 × Int32 × Int32 × Int32 × Int32 × (Nat → Int32) × (Nat → Int32) × (Nat → Int32) × (Nat → Int32)) => [(o, .inr (10, [.ref o_text, .int v_length, .ref o_now, .ref o_trial, .ref o_diary, .int v_acts, .int v_next, .ref o_kept, .ref o_isKept, .ref o_knownPlace, .ref o_knownLetter, .int v_known, .long v_seed, .int u.2.2.2.2.2.2.2.2.2.2.1, .int u.2.1, .int u.2.2.2.2.2.2.2.2.1, .int u.2.2.2.2.2.2.2.2.2.1, .int u.2.2.2.2.2.2.1, .int u.2.2.2.2.2.1, .int u.2.2.1, .int u.2.2.2.1, .int u.2.2.2.2.2.2.2.1, .ref o_letters, .ref o_starts, .int u.1, .ref o_bestLetters, .int v_alike, .int u.2.2.2.2.1, .ref o_deep, .ref o_worth, .int v_readLevel, .int v_readMany, .ref o_readTicks, .int v_part, .int v_ten])), (o_bestLetters, .inl (cI, 64, .inl u.2.2.2.2.2.2.2.2.2.2.2.1)), (o_deep, .inl (cI, 360, .inl u.2.2.2.2.2.2.2.2.2.2.2.2.1)), (o_letters, .inl (cI, 64, .inl u.2.2.2.2.2.2.2.2.2.2.2.2.2.1)), (o_starts, .inl (cI, 64, .inl u.2.2.2.2.2.2.2.2.2.2.2.2.2.2)), (o_a1, .inl (cI, 361, .inl v_a1))]) := by
  refine CtI.of (S := Int32 × Int32 × Int32 × Int32 × Int32 × Int32 × Int32 × Int32 × Int32 × Int32 × Int32 × (Nat → Int32) × (Nat → Int32) × (Nat → Int32) × (Nat → Int32)) (y := yX10_best) (Tc := wkX10_best) (rm := rmX10_best) (D := D) (tys := tys4 cI cJ cZ cW) (av := [.ref o, .ref o_a1]) (wc := [(o, .inr (10, [.ref o_text, .int v_length, .ref o_now, .ref o_trial, .ref o_diary, .int v_acts, .int v_next, .ref o_kept, .ref o_isKept, .ref o_knownPlace, .ref o_knownLetter, .int v_known, .long v_seed, .int v_wide, .int v_bits, .int v_parity, .int v_stops, .int v_idle, .int v_frames, .int v_failed, .int v_failedAt, .int v_margin, .ref o_letters, .ref o_starts, .int v_bestFrames, .ref o_bestLetters, .int v_alike, .int v_fitting, .ref o_deep, .ref o_worth, .int v_readLevel, .int v_readMany, .ref o_readTicks, .int v_part, .int v_ten])), (o_bestLetters, .inl (cI, 64, .inl v_bestLetters)), (o_deep, .inl (cI, 360, .inl v_deep)), (o_letters, .inl (cI, 64, .inl v_letters)), (o_starts, .inl (cI, 64, .inl v_starts)), (o_a1, .inl (cI, 361, .inl v_a1))]) (post := (fun (r : Int32) (u : Int32 × Int32 × Int32 × Int32 × Int32 × Int32 × Int32 × Int32 × Int32 × Int32 × Int32 × (Nat → Int32) × (Nat → Int32) × (Nat → Int32) × (Nat → Int32)) => Q r u.1 u.2.1 u.2.2.1 u.2.2.2.1 u.2.2.2.2.1 u.2.2.2.2.2.1 u.2.2.2.2.2.2.1 u.2.2.2.2.2.2.2.1 u.2.2.2.2.2.2.2.2.1 u.2.2.2.2.2.2.2.2.2.1 u.2.2.2.2.2.2.2.2.2.2.1 u.2.2.2.2.2.2.2.2.2.2.2.1 u.2.2.2.2.2.2.2.2.2.2.2.2.1 u.2.2.2.2.2.2.2.2.2.2.2.2.2.1 u.2.2.2.2.2.2.2.2.2.2.2.2.2.2)) (w1 := (fun (u : Int32 × Int32 × Int32 × Int32 × Int32 × Int32 × Int32 × Int32 × Int32 × Int32 × Int32 × (Nat → Int32) × (Nat → Int32) × (Nat → Int32) × (Nat → Int32)) => [(o, .inr (10, [.ref o_text, .int v_length, .ref o_now, .ref o_trial, .ref o_diary, .int v_acts, .int v_next, .ref o_kept, .ref o_isKept, .ref o_knownPlace, .ref o_knownLetter, .int v_known, .long v_seed, .int u.2.2.2.2.2.2.2.2.2.2.1, .int u.2.1, .int u.2.2.2.2.2.2.2.2.1, .int u.2.2.2.2.2.2.2.2.2.1, .int u.2.2.2.2.2.2.1, .int u.2.2.2.2.2.1, .int u.2.2.1, .int u.2.2.2.1, .int u.2.2.2.2.2.2.2.1, .ref o_letters, .ref o_starts, .int u.1, .ref o_bestLetters, .int v_alike, .int u.2.2.2.2.1, .ref o_deep, .ref o_worth, .int v_readLevel, .int v_readMany, .ref o_readTicks, .int v_part, .int v_ten])), (o_bestLetters, .inl (cI, 64, .inl u.2.2.2.2.2.2.2.2.2.2.2.1)), (o_deep, .inl (cI, 360, .inl u.2.2.2.2.2.2.2.2.2.2.2.2.1)), (o_letters, .inl (cI, 64, .inl u.2.2.2.2.2.2.2.2.2.2.2.2.2.1)), (o_starts, .inl (cI, 64, .inl u.2.2.2.2.2.2.2.2.2.2.2.2.2.2)), (o_a1, .inl (cI, 361, .inl v_a1))])) (cc := cX10_best) (maxL := 7) RX10 rfl (by decide +kernel) rfl rfl [(0, .ref o), (1, .ref o_a1)] rfl ?_
  intro p e s m args below meth c A Qm C hret
  have H23 : ∀ (n23 : Nat) (x2 : Int32) (x3 : Int32) (x4 : Int32) (v_bestFrames : Int32) (v_bits : Int32) (v_failed : Int32) (v_failedAt : Int32) (v_fitting : Int32) (v_frames : Int32) (v_idle : Int32) (v_margin : Int32) (v_parity : Int32) (v_stops : Int32) (v_wide : Int32) (v_bestLetters : (Nat → Int32)) (v_deep : (Nat → Int32)) (v_letters : (Nat → Int32)) (v_starts : (Nat → Int32)), wX10_best_23 fu v_a1 Q n23 x2 x3 x4 v_bestFrames v_bits v_failed v_failedAt v_fitting v_frames v_idle v_margin v_parity v_stops v_wide v_bestLetters v_deep v_letters v_starts → G p l e rmX10_best s m args below meth c D A 7 0 0 Qm [(o, .inr (10, [.ref o_text, .int v_length, .ref o_now, .ref o_trial, .ref o_diary, .int v_acts, .int v_next, .ref o_kept, .ref o_isKept, .ref o_knownPlace, .ref o_knownLetter, .int v_known, .long v_seed, .int v_wide, .int v_bits, .int v_parity, .int v_stops, .int v_idle, .int v_frames, .int v_failed, .int v_failedAt, .int v_margin, .ref o_letters, .ref o_starts, .int v_bestFrames, .ref o_bestLetters, .int v_alike, .int v_fitting, .ref o_deep, .ref o_worth, .int v_readLevel, .int v_readMany, .ref o_readTicks, .int v_part, .int v_ten])), (o_bestLetters, .inl (cI, 64, .inl v_bestLetters)), (o_deep, .inl (cI, 360, .inl v_deep)), (o_letters, .inl (cI, 64, .inl v_letters)), (o_starts, .inl (cI, 64, .inl v_starts)), (o_a1, .inl (cI, 361, .inl v_a1))] [(0, .ref o), (1, .ref o_a1), (2, .int x2), (3, .int x3), (4, .int x4)] 23 [] := by
    intro n23
    induction n23 with
    | zero => intro x2 x3 x4 v_bestFrames v_bits v_failed v_failedAt v_fitting v_frames v_idle v_margin v_parity v_stops v_wide v_bestLetters v_deep v_letters v_starts h; exact False.elim h
    | succ n23 ih23 =>
      have H153 : ∀ (x2 : Int32) (x3 : Int32) (x4 : Int32) (v_bestFrames : Int32) (v_bits : Int32) (v_failed : Int32) (v_failedAt : Int32) (v_fitting : Int32) (v_frames : Int32) (v_idle : Int32) (v_margin : Int32) (v_parity : Int32) (v_stops : Int32) (v_wide : Int32) (v_bestLetters : (Nat → Int32)) (v_deep : (Nat → Int32)) (v_letters : (Nat → Int32)) (v_starts : (Nat → Int32)), wX10_best_153 fu v_a1 Q (wX10_best_23 fu v_a1 Q n23) x2 x3 x4 v_bestFrames v_bits v_failed v_failedAt v_fitting v_frames v_idle v_margin v_parity v_stops v_wide v_bestLetters v_deep v_letters v_starts → G p l e rmX10_best s m args below meth c D A 7 0 0 Qm [(o, .inr (10, [.ref o_text, .int v_length, .ref o_now, .ref o_trial, .ref o_diary, .int v_acts, .int v_next, .ref o_kept, .ref o_isKept, .ref o_knownPlace, .ref o_knownLetter, .int v_known, .long v_seed, .int v_wide, .int v_bits, .int v_parity, .int v_stops, .int v_idle, .int v_frames, .int v_failed, .int v_failedAt, .int v_margin, .ref o_letters, .ref o_starts, .int v_bestFrames, .ref o_bestLetters, .int v_alike, .int v_fitting, .ref o_deep, .ref o_worth, .int v_readLevel, .int v_readMany, .ref o_readTicks, .int v_part, .int v_ten])), (o_bestLetters, .inl (cI, 64, .inl v_bestLetters)), (o_deep, .inl (cI, 360, .inl v_deep)), (o_letters, .inl (cI, 64, .inl v_letters)), (o_starts, .inl (cI, 64, .inl v_starts)), (o_a1, .inl (cI, 361, .inl v_a1))] [(0, .ref o), (1, .ref o_a1), (2, .int x2), (3, .int x3), (4, .int x4)] 153 [] := by
        intro x2 x3 x4 v_bestFrames v_bits v_failed v_failedAt v_fitting v_frames v_idle v_margin v_parity v_stops v_wide v_bestLetters v_deep v_letters v_starts h
        unfold wX10_best_153 at h
        refine g_iinc C 4 x4 (x4 + (1 : Int32)) [(4, .int (x4 + (1 : Int32))), (0, .ref o), (1, .ref o_a1), (2, .int x2), (3, .int x3)] dX10_best_153 rfl rfl (by decide) rfl ?_
        refine g_goto C 23 dX10_best_156 (by decide) ?_
        refine g_lv [1, 2, 3, 4, 0] rfl ?_
        exact ih23  x2 x3 (x4 + (1 : Int32)) v_bestFrames v_bits v_failed v_failedAt v_fitting v_frames v_idle v_margin v_parity v_stops v_wide v_bestLetters v_deep v_letters v_starts h
      have H124 : ∀ (n124 : Nat) (x2 : Int32) (x3 : Int32) (x4 : Int32) (x6 : Int32) (v_bestFrames : Int32) (v_bits : Int32) (v_failed : Int32) (v_failedAt : Int32) (v_fitting : Int32) (v_frames : Int32) (v_idle : Int32) (v_margin : Int32) (v_parity : Int32) (v_stops : Int32) (v_wide : Int32) (v_bestLetters : (Nat → Int32)) (v_deep : (Nat → Int32)) (v_letters : (Nat → Int32)) (v_starts : (Nat → Int32)), wX10_best_124 fu v_a1 Q (wX10_best_23 fu v_a1 Q n23) n124 x2 x3 x4 x6 v_bestFrames v_bits v_failed v_failedAt v_fitting v_frames v_idle v_margin v_parity v_stops v_wide v_bestLetters v_deep v_letters v_starts → G p l e rmX10_best s m args below meth c D A 7 0 0 Qm [(o, .inr (10, [.ref o_text, .int v_length, .ref o_now, .ref o_trial, .ref o_diary, .int v_acts, .int v_next, .ref o_kept, .ref o_isKept, .ref o_knownPlace, .ref o_knownLetter, .int v_known, .long v_seed, .int v_wide, .int v_bits, .int v_parity, .int v_stops, .int v_idle, .int v_frames, .int v_failed, .int v_failedAt, .int v_margin, .ref o_letters, .ref o_starts, .int v_bestFrames, .ref o_bestLetters, .int v_alike, .int v_fitting, .ref o_deep, .ref o_worth, .int v_readLevel, .int v_readMany, .ref o_readTicks, .int v_part, .int v_ten])), (o_bestLetters, .inl (cI, 64, .inl v_bestLetters)), (o_deep, .inl (cI, 360, .inl v_deep)), (o_letters, .inl (cI, 64, .inl v_letters)), (o_starts, .inl (cI, 64, .inl v_starts)), (o_a1, .inl (cI, 361, .inl v_a1))] [(0, .ref o), (1, .ref o_a1), (2, .int x2), (3, .int x3), (4, .int x4), (6, .int x6)] 124 [] := by
        intro n124
        induction n124 with
        | zero => intro x2 x3 x4 x6 v_bestFrames v_bits v_failed v_failedAt v_fitting v_frames v_idle v_margin v_parity v_stops v_wide v_bestLetters v_deep v_letters v_starts h; exact False.elim h
        | succ n124 ih124 =>
          intro x2 x3 x4 x6 v_bestFrames v_bits v_failed v_failedAt v_fitting v_frames v_idle v_margin v_parity v_stops v_wide v_bestLetters v_deep v_letters v_starts h
          unfold wX10_best_124 at h
          refine g_iload C 6 5 x6 dX10_best_124 rfl ?_
          refine g_aload_n C 0 0 o dX10_best_126 rfl rfl ?_
          refine g_get C 10 ix_10 0 _ rfl rfl 18 (by decide) wm_396 rfl (.int v_frames) rfl dX10_best_127 ?_
          refine g_icmp_ge C 153 dX10_best_130 (by decide) (fun c24 => ?_) (fun c24 => ?_)
          · have h := wp_t c24 h
            refine g_lv [0, 1, 2, 3, 4] rfl ?_
            exact H153  x2 x3 x4 v_bestFrames v_bits v_failed v_failedAt v_fitting v_frames v_idle v_margin v_parity v_stops v_wide v_bestLetters v_deep v_letters v_starts h
          have h := wp_f c24 h
          refine g_aload_n C 0 0 o dX10_best_133 rfl rfl ?_
          refine g_get C 10 ix_10 0 _ rfl rfl 25 (by decide) wm_137 rfl (.ref o_bestLetters) rfl dX10_best_134 ?_
          refine g_iload C 6 5 x6 dX10_best_137 rfl ?_
          refine g_aload_n C 0 0 o dX10_best_139 rfl rfl ?_
          refine g_get C 10 ix_10 0 _ rfl rfl 22 (by decide) wm_135 rfl (.ref o_letters) rfl dX10_best_140 ?_
          refine g_iload C 6 5 x6 dX10_best_143 rfl ?_
          obtain ⟨hi25, h⟩ := h
          refine g_iald C 3 0 cI 64 v_letters rfl rfl hi25 dX10_best_145 ?_
          obtain ⟨hi26, h⟩ := h
          refine g_iast C 1 0 cI 64 v_bestLetters rfl rfl hi26 dX10_best_146 [(o, .inr (10, [.ref o_text, .int v_length, .ref o_now, .ref o_trial, .ref o_diary, .int v_acts, .int v_next, .ref o_kept, .ref o_isKept, .ref o_knownPlace, .ref o_knownLetter, .int v_known, .long v_seed, .int v_wide, .int v_bits, .int v_parity, .int v_stops, .int v_idle, .int v_frames, .int v_failed, .int v_failedAt, .int v_margin, .ref o_letters, .ref o_starts, .int v_bestFrames, .ref o_bestLetters, .int v_alike, .int v_fitting, .ref o_deep, .ref o_worth, .int v_readLevel, .int v_readMany, .ref o_readTicks, .int v_part, .int v_ten])), (o_bestLetters, .inl (cI, 64, .inl (upd v_bestLetters (ix x6) (v_letters (ix x6))))), (o_deep, .inl (cI, 360, .inl v_deep)), (o_letters, .inl (cI, 64, .inl v_letters)), (o_starts, .inl (cI, 64, .inl v_starts)), (o_a1, .inl (cI, 361, .inl v_a1))] rfl ?_
          refine g_iinc C 5 x6 (x6 + (1 : Int32)) [(6, .int (x6 + (1 : Int32))), (0, .ref o), (1, .ref o_a1), (2, .int x2), (3, .int x3), (4, .int x4)] dX10_best_147 rfl rfl (by decide) rfl ?_
          refine g_goto C 124 dX10_best_150 (by decide) ?_
          refine g_lv [1, 2, 3, 4, 5, 0] rfl ?_
          exact ih124  x2 x3 x4 (x6 + (1 : Int32)) v_bestFrames v_bits v_failed v_failedAt v_fitting v_frames v_idle v_margin v_parity v_stops v_wide (upd v_bestLetters (ix x6) (v_letters (ix x6))) v_deep v_letters v_starts h
      have H102 : ∀ (x4 : Int32) (v_bestFrames : Int32) (v_bits : Int32) (v_failed : Int32) (v_failedAt : Int32) (v_fitting : Int32) (v_frames : Int32) (v_idle : Int32) (v_margin : Int32) (v_parity : Int32) (v_stops : Int32) (v_wide : Int32) (v_bestLetters : (Nat → Int32)) (v_deep : (Nat → Int32)) (v_letters : (Nat → Int32)) (v_starts : (Nat → Int32)), wX10_best_102 fu v_a1 Q (wX10_best_23 fu v_a1 Q n23) x4 v_bestFrames v_bits v_failed v_failedAt v_fitting v_frames v_idle v_margin v_parity v_stops v_wide v_bestLetters v_deep v_letters v_starts → G p l e rmX10_best s m args below meth c D A 7 0 0 Qm [(o, .inr (10, [.ref o_text, .int v_length, .ref o_now, .ref o_trial, .ref o_diary, .int v_acts, .int v_next, .ref o_kept, .ref o_isKept, .ref o_knownPlace, .ref o_knownLetter, .int v_known, .long v_seed, .int v_wide, .int v_bits, .int v_parity, .int v_stops, .int v_idle, .int v_frames, .int v_failed, .int v_failedAt, .int v_margin, .ref o_letters, .ref o_starts, .int v_bestFrames, .ref o_bestLetters, .int v_alike, .int v_fitting, .ref o_deep, .ref o_worth, .int v_readLevel, .int v_readMany, .ref o_readTicks, .int v_part, .int v_ten])), (o_bestLetters, .inl (cI, 64, .inl v_bestLetters)), (o_deep, .inl (cI, 360, .inl v_deep)), (o_letters, .inl (cI, 64, .inl v_letters)), (o_starts, .inl (cI, 64, .inl v_starts)), (o_a1, .inl (cI, 361, .inl v_a1))] [(0, .ref o), (1, .ref o_a1), (4, .int x4)] 102 [] := by
        intro x4 v_bestFrames v_bits v_failed v_failedAt v_fitting v_frames v_idle v_margin v_parity v_stops v_wide v_bestLetters v_deep v_letters v_starts h
        unfold wX10_best_102 at h
        refine g_iload C 4 2 x4 dX10_best_102 rfl ?_
        refine g_callSi0 (As := [.int x4]) (rest := []) C (c_X10_codeOf l D cI cJ cZ cW x4 fu _ h) 1 gd_X10_148 rfl rfl rfl (by decide +kernel) ⟨Nat.le_of_ble_eq_true rfl, Nat.le_of_ble_eq_true rfl⟩ ⟨Nat.le_of_ble_eq_true rfl, Nat.le_of_ble_eq_true rfl⟩ rfl rfl (Nat.le_of_ble_eq_true rfl) [] rfl rfl dX10_best_104 (fun r23 h => ?_)
        refine g_istore_n C [(2, .int r23), (0, .ref o), (1, .ref o_a1), (4, .int x4)] dX10_best_107 rfl (by decide) rfl ?_
        refine g_aload_n C 0 1 o dX10_best_108 rfl rfl ?_
        refine g_get C 10 ix_10 0 _ rfl rfl 21 (by decide) wm_395 rfl (.int v_margin) rfl dX10_best_109 ?_
        refine g_istore_n C [(3, .int v_margin), (2, .int r23), (0, .ref o), (1, .ref o_a1), (4, .int x4)] dX10_best_112 rfl (by decide) rfl ?_
        refine g_aload_n C 0 2 o dX10_best_113 rfl rfl ?_
        refine g_aload_n C 0 2 o dX10_best_114 rfl rfl ?_
        refine g_get C 10 ix_10 0 _ rfl rfl 18 (by decide) wm_396 rfl (.int v_frames) rfl dX10_best_115 ?_
        refine g_put C 10 ix_10 0 _ rfl rfl 24 (by decide) wm_394 rfl tyX10 tyX10_ok nmX10 rfl rfl rfl (Nat.le_of_ble_eq_true rfl) dX10_best_118 [(o, .inr (10, [.ref o_text, .int v_length, .ref o_now, .ref o_trial, .ref o_diary, .int v_acts, .int v_next, .ref o_kept, .ref o_isKept, .ref o_knownPlace, .ref o_knownLetter, .int v_known, .long v_seed, .int v_wide, .int v_bits, .int v_parity, .int v_stops, .int v_idle, .int v_frames, .int v_failed, .int v_failedAt, .int v_margin, .ref o_letters, .ref o_starts, .int v_frames, .ref o_bestLetters, .int v_alike, .int v_fitting, .ref o_deep, .ref o_worth, .int v_readLevel, .int v_readMany, .ref o_readTicks, .int v_part, .int v_ten])), (o_bestLetters, .inl (cI, 64, .inl v_bestLetters)), (o_deep, .inl (cI, 360, .inl v_deep)), (o_letters, .inl (cI, 64, .inl v_letters)), (o_starts, .inl (cI, 64, .inl v_starts)), (o_a1, .inl (cI, 361, .inl v_a1))] rfl ?_
        refine g_iconst C (0 : Int32) dX10_best_121 rfl ?_
        refine g_istore C [(6, .int (0 : Int32)), (3, .int v_margin), (2, .int r23), (0, .ref o), (1, .ref o_a1), (4, .int x4)] dX10_best_122 (by decide) rfl ?_
        refine g_lv [3, 4, 2, 1, 5, 0] rfl ?_
        exact H124 fu  r23 v_margin x4 (0 : Int32) v_frames v_bits v_failed v_failedAt v_fitting v_frames v_idle v_margin v_parity v_stops v_wide v_bestLetters v_deep v_letters v_starts h
      intro x2 x3 x4 v_bestFrames v_bits v_failed v_failedAt v_fitting v_frames v_idle v_margin v_parity v_stops v_wide v_bestLetters v_deep v_letters v_starts h
      unfold wX10_best_23 at h
      refine g_iload C 4 4 x4 dX10_best_23 rfl ?_
      refine g_sipush C (768 : Int32) dX10_best_25 rfl ?_
      refine g_icmp_ge C 159 dX10_best_28 (by decide) (fun c2 => ?_) (fun c2 => ?_)
      · have h := wp_t c2 h
        refine g_iload_n C 2 2 x2 dX10_best_159 rfl rfl ?_
        exact hret _ (v_bestFrames, v_bits, v_failed, v_failedAt, v_fitting, v_frames, v_idle, v_margin, v_parity, v_stops, v_wide, v_bestLetters, v_deep, v_letters, v_starts) _ _ _ dX10_best_160 h rfl
      have h := wp_f c2 h
      refine g_aload_n C 0 0 o dX10_best_31 rfl rfl ?_
      refine g_iload C 4 4 x4 dX10_best_32 rfl ?_
      refine g_callSi0 (As := [.int x4]) (rest := [.ref o]) C (c_X10_codeOf l D cI cJ cZ cW x4 fu _ h) 1 gd_X10_148 rfl rfl rfl (by decide +kernel) ⟨Nat.le_of_ble_eq_true rfl, Nat.le_of_ble_eq_true rfl⟩ ⟨Nat.le_of_ble_eq_true rfl, Nat.le_of_ble_eq_true rfl⟩ rfl rfl (Nat.le_of_ble_eq_true rfl) [] rfl rfl dX10_best_34 (fun r3 h => ?_)
      refine g_callVi (As := [.int r3]) (rest := []) C (c_X10_layCode l D cI cJ cZ cW o o_text o_now o_trial o_diary o_kept o_isKept o_knownPlace o_knownLetter o_letters o_starts o_bestLetters o_deep o_worth o_readTicks v_length v_acts v_next v_known v_seed v_wide v_bits v_parity v_stops v_idle v_frames v_failed v_failedAt v_margin v_bestFrames v_alike v_fitting v_readLevel v_readMany v_part v_ten r3 fu _ h) 1 gd_X10_152 rfl rfl rfl (by decide +kernel) ⟨Nat.le_of_ble_eq_true rfl, Nat.le_of_ble_eq_true rfl⟩ ⟨Nat.le_of_ble_eq_true rfl, Nat.le_of_ble_eq_true rfl⟩ 10 0 rfl rfl rfl rfl (Nat.le_of_ble_eq_true rfl) [0] [some 0, none, none, none, none, none] rfl rfl rfl dX10_best_37 (fun r9 u h => ?_)
      obtain ⟨z4, z5, z6, z7, z8⟩ := u
      obtain ⟨hzr9, h⟩ := h
      refine ⟨[(o, .inr (10, [.ref o_text, .int v_length, .ref o_now, .ref o_trial, .ref o_diary, .int v_acts, .int v_next, .ref o_kept, .ref o_isKept, .ref o_knownPlace, .ref o_knownLetter, .int v_known, .long v_seed, .int z8, .int z4, .int z6, .int z7, .int z5, .int v_frames, .int v_failed, .int v_failedAt, .int v_margin, .ref o_letters, .ref o_starts, .int v_bestFrames, .ref o_bestLetters, .int v_alike, .int v_fitting, .ref o_deep, .ref o_worth, .int v_readLevel, .int v_readMany, .ref o_readTicks, .int v_part, .int v_ten])), (o_bestLetters, .inl (cI, 64, .inl v_bestLetters)), (o_deep, .inl (cI, 360, .inl v_deep)), (o_letters, .inl (cI, 64, .inl v_letters)), (o_starts, .inl (cI, 64, .inl v_starts)), (o_a1, .inl (cI, 361, .inl v_a1))], rfl, rfl, rfl, ?_⟩
      refine g_istore C [(5, .int r9), (0, .ref o), (1, .ref o_a1), (2, .int x2), (3, .int x3), (4, .int x4)] dX10_best_40 (by decide) rfl ?_
      refine g_aload_n C 0 1 o dX10_best_42 rfl rfl ?_
      refine g_aload_n C 1 2 o_a1 dX10_best_43 rfl rfl ?_
      refine g_callVv (As := [.ref o_a1]) (rest := []) C (c_X10_read l D cI cJ cZ cW o o_text o_now o_trial o_diary o_kept o_isKept o_knownPlace o_knownLetter o_letters o_starts o_bestLetters o_deep o_worth o_readTicks o_a1 v_length v_acts v_next v_known v_seed z8 z4 z6 z7 z5 v_frames v_failed v_failedAt v_margin v_bestFrames v_alike v_fitting v_readLevel v_readMany v_part v_ten v_deep v_letters v_starts v_a1 fu _ h) 1 gd_X10_155 rfl rfl rfl (by decide +kernel) ⟨Nat.le_of_ble_eq_true rfl, Nat.le_of_ble_eq_true rfl⟩ ⟨Nat.le_of_ble_eq_true rfl, Nat.le_of_ble_eq_true rfl⟩ 10 0 rfl rfl rfl rfl (Nat.le_of_ble_eq_true rfl) [0, 2, 3, 4, 5] [some 0, none, some 1, some 2, some 3, some 4] rfl rfl rfl dX10_best_44 (fun u h => ?_)
      obtain ⟨z10, z11, z12, z13, z14, z15⟩ := u
      refine ⟨[(o, .inr (10, [.ref o_text, .int v_length, .ref o_now, .ref o_trial, .ref o_diary, .int v_acts, .int v_next, .ref o_kept, .ref o_isKept, .ref o_knownPlace, .ref o_knownLetter, .int v_known, .long v_seed, .int z8, .int z4, .int z6, .int z7, .int z5, .int z12, .int z10, .int z11, .int z13, .ref o_letters, .ref o_starts, .int v_bestFrames, .ref o_bestLetters, .int v_alike, .int v_fitting, .ref o_deep, .ref o_worth, .int v_readLevel, .int v_readMany, .ref o_readTicks, .int v_part, .int v_ten])), (o_bestLetters, .inl (cI, 64, .inl v_bestLetters)), (o_deep, .inl (cI, 360, .inl v_deep)), (o_letters, .inl (cI, 64, .inl z14)), (o_starts, .inl (cI, 64, .inl z15)), (o_a1, .inl (cI, 361, .inl v_a1))], rfl, rfl, rfl, ?_⟩
      refine g_iload C 5 0 r9 dX10_best_47 rfl ?_
      refine g_if_eq C 153 dX10_best_49 (by decide) (fun c16 => ?_) (fun c16 => ?_)
      · have h := wp_t c16 h
        refine g_lv [1, 2, 3, 4, 5] rfl ?_
        exact H153  x2 x3 x4 v_bestFrames z4 z10 z11 v_fitting z12 z5 z13 z6 z7 z8 v_bestLetters v_deep z14 z15 h
      have h := wp_f c16 h
      refine g_aload_n C 0 1 o dX10_best_52 rfl rfl ?_
      refine g_callVi0 (As := []) (rest := []) C (c_X10_fits l D cI cJ cZ cW o o_text o_now o_trial o_diary o_kept o_isKept o_knownPlace o_knownLetter o_letters o_starts o_bestLetters o_deep o_worth o_readTicks v_length v_acts v_next v_known v_seed z8 z4 z6 z7 z5 z12 z10 z11 z13 v_bestFrames v_alike v_fitting v_readLevel v_readMany v_part v_ten fu _ h) 0 gd_X10_158 rfl rfl rfl (by decide +kernel) ⟨Nat.le_of_ble_eq_true rfl, Nat.le_of_ble_eq_true rfl⟩ ⟨Nat.le_of_ble_eq_true rfl, Nat.le_of_ble_eq_true rfl⟩ 10 0 rfl rfl rfl rfl (Nat.le_of_ble_eq_true rfl) [0] rfl rfl dX10_best_53 (fun r17 h => ?_)
      obtain ⟨hzr17, h⟩ := h
      refine g_if_eq C 153 dX10_best_56 (by decide) (fun c18 => ?_) (fun c18 => ?_)
      · have h := wp_t c18 h
        refine g_lv [1, 2, 3, 4, 5] rfl ?_
        exact H153  x2 x3 x4 v_bestFrames z4 z10 z11 v_fitting z12 z5 z13 z6 z7 z8 v_bestLetters v_deep z14 z15 h
      have h := wp_f c18 h
      refine g_aload_n C 0 1 o dX10_best_59 rfl rfl ?_
      refine g_dup C dX10_best_60 rfl ?_
      refine g_get C 10 ix_10 0 _ rfl rfl 27 (by decide) wm_389 rfl (.int v_fitting) rfl dX10_best_61 ?_
      refine g_iconst C (1 : Int32) dX10_best_64 rfl ?_
      refine g_iadd C dX10_best_65 ?_
      refine g_put C 10 ix_10 0 _ rfl rfl 27 (by decide) wm_389 rfl tyX10 tyX10_ok nmX10 rfl rfl rfl (Nat.le_of_ble_eq_true rfl) dX10_best_66 [(o, .inr (10, [.ref o_text, .int v_length, .ref o_now, .ref o_trial, .ref o_diary, .int v_acts, .int v_next, .ref o_kept, .ref o_isKept, .ref o_knownPlace, .ref o_knownLetter, .int v_known, .long v_seed, .int z8, .int z4, .int z6, .int z7, .int z5, .int z12, .int z10, .int z11, .int z13, .ref o_letters, .ref o_starts, .int v_bestFrames, .ref o_bestLetters, .int v_alike, .int (v_fitting + (1 : Int32)), .ref o_deep, .ref o_worth, .int v_readLevel, .int v_readMany, .ref o_readTicks, .int v_part, .int v_ten])), (o_bestLetters, .inl (cI, 64, .inl v_bestLetters)), (o_deep, .inl (cI, 360, .inl v_deep)), (o_letters, .inl (cI, 64, .inl z14)), (o_starts, .inl (cI, 64, .inl z15)), (o_a1, .inl (cI, 361, .inl v_a1))] rfl ?_
      refine g_iload_n C 2 3 x2 dX10_best_69 rfl rfl ?_
      refine g_bipush C (-9 : Int32) dX10_best_70 rfl ?_
      refine g_icmp_eq C 102 dX10_best_72 (by decide) (fun c19 => ?_) (fun c19 => ?_)
      · have h := wp_t c19 h
        refine g_lv [1, 2, 5] rfl ?_
        exact H102  x4 v_bestFrames z4 z10 z11 (v_fitting + (1 : Int32)) z12 z5 z13 z6 z7 z8 v_bestLetters v_deep z14 z15 h
      have h := wp_f c19 h
      refine g_aload_n C 0 1 o dX10_best_75 rfl rfl ?_
      refine g_get C 10 ix_10 0 _ rfl rfl 21 (by decide) wm_395 rfl (.int z13) rfl dX10_best_76 ?_
      refine g_iload_n C 3 4 x3 dX10_best_79 rfl rfl ?_
      refine g_icmp_gt C 102 dX10_best_80 (by decide) (fun c20 => ?_) (fun c20 => ?_)
      · have h := wp_t c20 h
        refine g_lv [1, 2, 5] rfl ?_
        exact H102  x4 v_bestFrames z4 z10 z11 (v_fitting + (1 : Int32)) z12 z5 z13 z6 z7 z8 v_bestLetters v_deep z14 z15 h
      have h := wp_f c20 h
      refine g_aload_n C 0 1 o dX10_best_83 rfl rfl ?_
      refine g_get C 10 ix_10 0 _ rfl rfl 21 (by decide) wm_395 rfl (.int z13) rfl dX10_best_84 ?_
      refine g_iload_n C 3 4 x3 dX10_best_87 rfl rfl ?_
      refine g_icmp_ne C 153 dX10_best_88 (by decide) (fun c21 => ?_) (fun c21 => ?_)
      · have h := wp_f c21 h
        refine g_lv [1, 2, 3, 4, 5] rfl ?_
        exact H153  x2 x3 x4 v_bestFrames z4 z10 z11 (v_fitting + (1 : Int32)) z12 z5 z13 z6 z7 z8 v_bestLetters v_deep z14 z15 h
      have h := wp_t c21 h
      refine g_aload_n C 0 1 o dX10_best_91 rfl rfl ?_
      refine g_get C 10 ix_10 0 _ rfl rfl 18 (by decide) wm_396 rfl (.int z12) rfl dX10_best_92 ?_
      refine g_aload_n C 0 1 o dX10_best_95 rfl rfl ?_
      refine g_get C 10 ix_10 0 _ rfl rfl 24 (by decide) wm_394 rfl (.int v_bestFrames) rfl dX10_best_96 ?_
      refine g_icmp_le C 153 dX10_best_99 (by decide) (fun c22 => ?_) (fun c22 => ?_)
      · have h := wp_t c22 h
        refine g_lv [1, 2, 3, 4, 5] rfl ?_
        exact H153  x2 x3 x4 v_bestFrames z4 z10 z11 (v_fitting + (1 : Int32)) z12 z5 z13 z6 z7 z8 v_bestLetters v_deep z14 z15 h
      have h := wp_f c22 h
      refine g_lv [1, 2, 5] rfl ?_
      exact H102  x4 v_bestFrames z4 z10 z11 (v_fitting + (1 : Int32)) z12 z5 z13 z6 z7 z8 v_bestLetters v_deep z14 z15 h
  unfold wp_X10_best at h
  refine g_aload_n C 0 0 o dX10_best_0 rfl rfl ?_
  refine g_aload_n C 1 1 o_a1 dX10_best_1 rfl rfl ?_
  refine g_callVv (As := [.ref o_a1]) (rest := []) C (c_X10_layDeep l D cI cJ cZ cW o o_text o_now o_trial o_diary o_kept o_isKept o_knownPlace o_knownLetter o_letters o_starts o_bestLetters o_deep o_worth o_readTicks o_a1 v_length v_acts v_next v_known v_seed v_wide v_bits v_parity v_stops v_idle v_frames v_failed v_failedAt v_margin v_bestFrames v_alike v_fitting v_readLevel v_readMany v_part v_ten v_deep v_a1 fu _ h) 1 gd_X10_141 rfl rfl rfl (by decide +kernel) ⟨Nat.le_of_ble_eq_true rfl, Nat.le_of_ble_eq_true rfl⟩ ⟨Nat.le_of_ble_eq_true rfl, Nat.le_of_ble_eq_true rfl⟩ 10 0 rfl rfl rfl rfl (Nat.le_of_ble_eq_true rfl) [0, 2, 5] [some 0, none, some 1, none, none, some 2] rfl rfl rfl dX10_best_2 (fun u h => ?_)
  obtain ⟨z1, rfl⟩ : ∃ z, z = u := ⟨_, rfl⟩
  refine ⟨[(o, .inr (10, [.ref o_text, .int v_length, .ref o_now, .ref o_trial, .ref o_diary, .int v_acts, .int v_next, .ref o_kept, .ref o_isKept, .ref o_knownPlace, .ref o_knownLetter, .int v_known, .long v_seed, .int v_wide, .int v_bits, .int v_parity, .int v_stops, .int v_idle, .int v_frames, .int v_failed, .int v_failedAt, .int v_margin, .ref o_letters, .ref o_starts, .int v_bestFrames, .ref o_bestLetters, .int v_alike, .int v_fitting, .ref o_deep, .ref o_worth, .int v_readLevel, .int v_readMany, .ref o_readTicks, .int v_part, .int v_ten])), (o_bestLetters, .inl (cI, 64, .inl v_bestLetters)), (o_deep, .inl (cI, 360, .inl z1)), (o_letters, .inl (cI, 64, .inl v_letters)), (o_starts, .inl (cI, 64, .inl v_starts)), (o_a1, .inl (cI, 361, .inl v_a1))], rfl, rfl, rfl, ?_⟩
  refine g_bipush C (-9 : Int32) dX10_best_5 rfl ?_
  refine g_istore_n C [(2, .int (-9 : Int32)), (0, .ref o), (1, .ref o_a1)] dX10_best_7 rfl (by decide) rfl ?_
  refine g_iconst C (0 : Int32) dX10_best_8 rfl ?_
  refine g_istore_n C [(3, .int (0 : Int32)), (2, .int (-9 : Int32)), (0, .ref o), (1, .ref o_a1)] dX10_best_9 rfl (by decide) rfl ?_
  refine g_aload_n C 0 2 o dX10_best_10 rfl rfl ?_
  refine g_iconst C (0 : Int32) dX10_best_11 rfl ?_
  refine g_put C 10 ix_10 0 _ rfl rfl 27 (by decide) wm_389 rfl tyX10 tyX10_ok nmX10 rfl rfl rfl (Nat.le_of_ble_eq_true rfl) dX10_best_12 [(o, .inr (10, [.ref o_text, .int v_length, .ref o_now, .ref o_trial, .ref o_diary, .int v_acts, .int v_next, .ref o_kept, .ref o_isKept, .ref o_knownPlace, .ref o_knownLetter, .int v_known, .long v_seed, .int v_wide, .int v_bits, .int v_parity, .int v_stops, .int v_idle, .int v_frames, .int v_failed, .int v_failedAt, .int v_margin, .ref o_letters, .ref o_starts, .int v_bestFrames, .ref o_bestLetters, .int v_alike, .int (0 : Int32), .ref o_deep, .ref o_worth, .int v_readLevel, .int v_readMany, .ref o_readTicks, .int v_part, .int v_ten])), (o_bestLetters, .inl (cI, 64, .inl v_bestLetters)), (o_deep, .inl (cI, 360, .inl z1)), (o_letters, .inl (cI, 64, .inl v_letters)), (o_starts, .inl (cI, 64, .inl v_starts)), (o_a1, .inl (cI, 361, .inl v_a1))] rfl ?_
  refine g_aload_n C 0 2 o dX10_best_15 rfl rfl ?_
  refine g_iconst C (0 : Int32) dX10_best_16 rfl ?_
  refine g_put C 10 ix_10 0 _ rfl rfl 24 (by decide) wm_394 rfl tyX10 tyX10_ok nmX10 rfl rfl rfl (Nat.le_of_ble_eq_true rfl) dX10_best_17 [(o, .inr (10, [.ref o_text, .int v_length, .ref o_now, .ref o_trial, .ref o_diary, .int v_acts, .int v_next, .ref o_kept, .ref o_isKept, .ref o_knownPlace, .ref o_knownLetter, .int v_known, .long v_seed, .int v_wide, .int v_bits, .int v_parity, .int v_stops, .int v_idle, .int v_frames, .int v_failed, .int v_failedAt, .int v_margin, .ref o_letters, .ref o_starts, .int (0 : Int32), .ref o_bestLetters, .int v_alike, .int (0 : Int32), .ref o_deep, .ref o_worth, .int v_readLevel, .int v_readMany, .ref o_readTicks, .int v_part, .int v_ten])), (o_bestLetters, .inl (cI, 64, .inl v_bestLetters)), (o_deep, .inl (cI, 360, .inl z1)), (o_letters, .inl (cI, 64, .inl v_letters)), (o_starts, .inl (cI, 64, .inl v_starts)), (o_a1, .inl (cI, 361, .inl v_a1))] rfl ?_
  refine g_iconst C (0 : Int32) dX10_best_20 rfl ?_
  refine g_istore C [(4, .int (0 : Int32)), (3, .int (0 : Int32)), (2, .int (-9 : Int32)), (0, .ref o), (1, .ref o_a1)] dX10_best_21 (by decide) rfl ?_
  refine g_lv [3, 4, 2, 1, 0] rfl ?_
  exact H23 fu  (-9 : Int32) (0 : Int32) (0 : Int32) (0 : Int32) v_bits v_failed v_failedAt (0 : Int32) v_frames v_idle v_margin v_parity v_stops v_wide v_bestLetters z1 v_letters v_starts h
abbrev rmX10_alikes : Room := { frames := 5, cells := 0, slots := 0, locals := 123 }
def wX10_alikes_74 (fu : Nat) (v_now : (Nat → Int32)) (Q : Int32 → Int32 → Int32 → Int32 → Int32 → Int32 → Int32 → Int32 → Int32 → Int32 → Int32 → Int32 → Int32 → (Nat → Int32) → (Nat → Int32) → (Nat → Int32) → (Nat → Int32) → Prop) (K16 : Int32 → Int32 → Int32 → Int32 → Int32 → Int32 → Int32 → Int32 → Int32 → Int32 → Int32 → Int32 → Int32 → Int32 → (Nat → Int32) → (Nat → Int32) → (Nat → Int32) → (Nat → Int32) → Prop) (x1 : Int32) (x2 : Int32) (k1 : Int32) (k2 : Int32) (v_alike : Int32) (v_bestFrames : Int32) (v_bits : Int32) (v_failed : Int32) (v_failedAt : Int32) (v_fitting : Int32) (v_frames : Int32) (v_idle : Int32) (v_margin : Int32) (v_parity : Int32) (v_stops : Int32) (v_wide : Int32) (v_bestLetters : (Nat → Int32)) (v_deep : (Nat → Int32)) (v_letters : (Nat → Int32)) (v_starts : (Nat → Int32)) : Prop := K16 x1 (x2 + (1 : Int32)) (k1 + k2) v_bestFrames v_bits v_failed v_failedAt v_fitting v_frames v_idle v_margin v_parity v_stops v_wide v_bestLetters v_deep v_letters v_starts
def wX10_alikes_73 (fu : Nat) (v_now : (Nat → Int32)) (Q : Int32 → Int32 → Int32 → Int32 → Int32 → Int32 → Int32 → Int32 → Int32 → Int32 → Int32 → Int32 → Int32 → (Nat → Int32) → (Nat → Int32) → (Nat → Int32) → (Nat → Int32) → Prop) (K16 : Int32 → Int32 → Int32 → Int32 → Int32 → Int32 → Int32 → Int32 → Int32 → Int32 → Int32 → Int32 → Int32 → Int32 → (Nat → Int32) → (Nat → Int32) → (Nat → Int32) → (Nat → Int32) → Prop) (x1 : Int32) (x2 : Int32) (k1 : Int32) (v_alike : Int32) (v_bestFrames : Int32) (v_bits : Int32) (v_failed : Int32) (v_failedAt : Int32) (v_fitting : Int32) (v_frames : Int32) (v_idle : Int32) (v_margin : Int32) (v_parity : Int32) (v_stops : Int32) (v_wide : Int32) (v_bestLetters : (Nat → Int32)) (v_deep : (Nat → Int32)) (v_letters : (Nat → Int32)) (v_starts : (Nat → Int32)) : Prop := wX10_alikes_74 fu v_now Q K16 x1 x2 k1 (0 : Int32) v_alike v_bestFrames v_bits v_failed v_failedAt v_fitting v_frames v_idle v_margin v_parity v_stops v_wide v_bestLetters v_deep v_letters v_starts
def wX10_alikes_16 (fu : Nat) (v_now : (Nat → Int32)) (Q : Int32 → Int32 → Int32 → Int32 → Int32 → Int32 → Int32 → Int32 → Int32 → Int32 → Int32 → Int32 → Int32 → (Nat → Int32) → (Nat → Int32) → (Nat → Int32) → (Nat → Int32) → Prop) : Nat → Int32 → Int32 → Int32 → Int32 → Int32 → Int32 → Int32 → Int32 → Int32 → Int32 → Int32 → Int32 → Int32 → Int32 → (Nat → Int32) → (Nat → Int32) → (Nat → Int32) → (Nat → Int32) → Prop
  | 0, _, _, _, _, _, _, _, _, _, _, _, _, _, _, _, _, _, _ => False
  | n0 + 1, x1, x2, v_alike, v_bestFrames, v_bits, v_failed, v_failedAt, v_fitting, v_frames, v_idle, v_margin, v_parity, v_stops, v_wide, v_bestLetters, v_deep, v_letters, v_starts => (if (768 : Int32) ≤ x2 then Q v_alike v_alike v_bestFrames v_bits v_failed v_failedAt v_fitting v_frames v_idle v_margin v_parity v_stops v_wide v_bestLetters v_deep v_letters v_starts else (if x1 = (-9 : Int32) then Q v_alike v_alike v_bestFrames v_bits v_failed v_failedAt v_fitting v_frames v_idle v_margin v_parity v_stops v_wide v_bestLetters v_deep v_letters v_starts else wp_X10_codeOf fu x2 (fun (r19 : Int32) => wp_X10_layCode fu r19 v_bits v_idle v_parity v_stops v_wide (fun (r25 : Int32) (z20 : Int32) (z21 : Int32) (z22 : Int32) (z23 : Int32) (z24 : Int32) => wp_X10_read fu z20 z21 z22 z23 z24 v_deep v_now v_failed v_failedAt v_frames v_margin v_letters v_starts (fun (z26 : Int32) (z27 : Int32) (z28 : Int32) (z29 : Int32) (z30 : (Nat → Int32)) (z31 : (Nat → Int32)) => (if r25 = 0 then wX10_alikes_73 fu v_now Q (wX10_alikes_16 fu v_now Q n0) x1 x2 v_alike v_alike v_bestFrames z20 z26 z27 v_fitting z28 z21 z29 z22 z23 z24 v_bestLetters v_deep z30 z31 else wp_X10_fits fu z26 z28 (fun (r33 : Int32) => (if r33 = 0 then wX10_alikes_73 fu v_now Q (wX10_alikes_16 fu v_now Q n0) x1 x2 v_alike v_alike v_bestFrames z20 z26 z27 v_fitting z28 z21 z29 z22 z23 z24 v_bestLetters v_deep z30 z31 else wp_X10_isAsBest fu v_bestFrames z28 v_bestLetters z30 (fun (r35 : Int32) => (if r35 = 0 then wX10_alikes_73 fu v_now Q (wX10_alikes_16 fu v_now Q n0) x1 x2 v_alike v_alike v_bestFrames z20 z26 z27 v_fitting z28 z21 z29 z22 z23 z24 v_bestLetters v_deep z30 z31 else wX10_alikes_74 fu v_now Q (wX10_alikes_16 fu v_now Q n0) x1 x2 v_alike (1 : Int32) v_alike v_bestFrames z20 z26 z27 v_fitting z28 z21 z29 z22 z23 z24 v_bestLetters v_deep z30 z31))))))))))
def wp_X10_alikes (fu : Nat) (v_now : (Nat → Int32)) (v_alike : Int32) (v_bestFrames : Int32) (v_bits : Int32) (v_failed : Int32) (v_failedAt : Int32) (v_fitting : Int32) (v_frames : Int32) (v_idle : Int32) (v_margin : Int32) (v_parity : Int32) (v_stops : Int32) (v_wide : Int32) (v_bestLetters : (Nat → Int32)) (v_deep : (Nat → Int32)) (v_letters : (Nat → Int32)) (v_starts : (Nat → Int32)) (Q : Int32 → Int32 → Int32 → Int32 → Int32 → Int32 → Int32 → Int32 → Int32 → Int32 → Int32 → Int32 → Int32 → (Nat → Int32) → (Nat → Int32) → (Nat → Int32) → (Nat → Int32) → Prop) : Prop := wp_X10_best fu v_now v_bestFrames v_bits v_failed v_failedAt v_fitting v_frames v_idle v_margin v_parity v_stops v_wide v_bestLetters v_deep v_letters v_starts (fun (r16 : Int32) (z1 : Int32) (z2 : Int32) (z3 : Int32) (z4 : Int32) (z5 : Int32) (z6 : Int32) (z7 : Int32) (z8 : Int32) (z9 : Int32) (z10 : Int32) (z11 : Int32) (z12 : (Nat → Int32)) (z13 : (Nat → Int32)) (z14 : (Nat → Int32)) (z15 : (Nat → Int32)) => wX10_alikes_16 fu v_now Q fu r16 (0 : Int32) (0 : Int32) z1 z2 z3 z4 z5 z6 z7 z8 z9 z10 z11 z12 z13 z14 z15)
set_option maxHeartbeats 4000000 in
set_option maxRecDepth 100000 in
theorem c_X10_alikes (l : Launch) (D : va_G) (cI cJ cZ cW : ClassId) (o o_text o_now o_trial o_diary o_kept o_isKept o_knownPlace o_knownLetter o_letters o_starts o_bestLetters o_deep o_worth o_readTicks : Nat) (v_length : Int32) (v_acts : Int32) (v_next : Int32) (v_known : Int32) (v_seed : Int64) (v_wide : Int32) (v_bits : Int32) (v_parity : Int32) (v_stops : Int32) (v_idle : Int32) (v_frames : Int32) (v_failed : Int32) (v_failedAt : Int32) (v_margin : Int32) (v_bestFrames : Int32) (v_alike : Int32) (v_fitting : Int32) (v_readLevel : Int32) (v_readMany : Int32) (v_part : Int32) (v_ten : Int32) (v_bestLetters : (Nat → Int32)) (v_deep : (Nat → Int32)) (v_letters : (Nat → Int32)) (v_now : (Nat → Int32)) (v_starts : (Nat → Int32)) (fu : Nat) (Q : Int32 → Int32 → Int32 → Int32 → Int32 → Int32 → Int32 → Int32 → Int32 → Int32 → Int32 → Int32 → Int32 → (Nat → Int32) → (Nat → Int32) → (Nat → Int32) → (Nat → Int32) → Prop) (h : wp_X10_alikes fu v_now v_alike v_bestFrames v_bits v_failed v_failedAt v_fitting v_frames v_idle v_margin v_parity v_stops v_wide v_bestLetters v_deep v_letters v_starts Q) : CtI l yX10_alikes wkX10_alikes rmX10_alikes D (tys4 cI cJ cZ cW) [.ref o] [(o, .inr (10, [.ref o_text, .int v_length, .ref o_now, .ref o_trial, .ref o_diary, .int v_acts, .int v_next, .ref o_kept, .ref o_isKept, .ref o_knownPlace, .ref o_knownLetter, .int v_known, .long v_seed, .int v_wide, .int v_bits, .int v_parity, .int v_stops, .int v_idle, .int v_frames, .int v_failed, .int v_failedAt, .int v_margin, .ref o_letters, .ref o_starts, .int v_bestFrames, .ref o_bestLetters, .int v_alike, .int v_fitting, .ref o_deep, .ref o_worth, .int v_readLevel, .int v_readMany, .ref o_readTicks, .int v_part, .int v_ten])), (o_bestLetters, .inl (cI, 64, .inl v_bestLetters)), (o_deep, .inl (cI, 360, .inl v_deep)), (o_letters, .inl (cI, 64, .inl v_letters)), (o_now, .inl (cI, 361, .inl v_now)), (o_starts, .inl (cI, 64, .inl v_starts))] (fun (r : Int32) (u : Int32 × Int32 × Int32 × Int32 × Int32 × Int32 × Int32 × Int32 × Int32 × Int32 × Int32 × Int32 × (Nat → Int32) × (Nat → Int32) × (Nat → Int32) × (Nat → Int32)) => Q r u.1 u.2.1 u.2.2.1 u.2.2.2.1 u.2.2.2.2.1 u.2.2.2.2.2.1 u.2.2.2.2.2.2.1 u.2.2.2.2.2.2.2.1 u.2.2.2.2.2.2.2.2.1 u.2.2.2.2.2.2.2.2.2.1 u.2.2.2.2.2.2.2.2.2.2.1 u.2.2.2.2.2.2.2.2.2.2.2.1 u.2.2.2.2.2.2.2.2.2.2.2.2.1 u.2.2.2.2.2.2.2.2.2.2.2.2.2.1 u.2.2.2.2.2.2.2.2.2.2.2.2.2.2.1 u.2.2.2.2.2.2.2.2.2.2.2.2.2.2.2) (fun (u : Int32 × Int32 × Int32 × Int32 × Int32 × Int32 × Int32 × Int32 × Int32 × Int32 × Int32 × Int32 × (Nat → Int32) × (Nat → Int32) × (Nat → Int32) × (Nat → Int32)) => [(o, .inr (10, [.ref o_text, .int v_length, .ref o_now, .ref o_trial, .ref o_diary, .int v_acts, .int v_next, .ref o_kept, .ref o_isKept, .ref o_knownPlace, .ref o_knownLetter, .int v_known, .long v_seed, .int u.2.2.2.2.2.2.2.2.2.2.2.1, .int u.2.2.1, .int u.2.2.2.2.2.2.2.2.2.1, .int u.2.2.2.2.2.2.2.2.2.2.1, .int u.2.2.2.2.2.2.2.1, .int u.2.2.2.2.2.2.1, .int u.2.2.2.1, .int u.2.2.2.2.1, .int u.2.2.2.2.2.2.2.2.1, .ref o_letters, .ref o_starts, .int u.2.1, .ref o_bestLetters, .int u.1, .int u.2.2.2.2.2.1, .ref o_deep, .ref o_worth, .int v_readLevel, .int v_readMany, .ref o_readTicks, .int v_part, .int v_ten])), (o_bestLetters, .inl (cI, 64, .inl u.2.2.2.2.2.2.2.2.2.2.2.2.1)), (o_deep, .inl (cI, 360, .inl u.2.2.2.2.2.2.2.2.2.2.2.2.2.1)), (o_letters, .inl (cI, 64, .inl u.2.2.2.2.2.2.2.2.2.2.2.2.2.2.1)), (o_now, .inl (cI, 361, .inl v_now)), (o_starts, .inl (cI, 64, .inl u.2.2.2.2.2.2.2.2.2.2.2.2.2.2.2))]) := by
  refine CtI.of (S := Int32 × Int32 × Int32 × Int32 × Int32 × Int32 × Int32 × Int32 × Int32 × Int32 × Int32 × Int32 × (Nat → Int32) × (Nat → Int32) × (Nat → Int32) × (Nat → Int32)) (y := yX10_alikes) (Tc := wkX10_alikes) (rm := rmX10_alikes) (D := D) (tys := tys4 cI cJ cZ cW) (av := [.ref o]) (wc := [(o, .inr (10, [.ref o_text, .int v_length, .ref o_now, .ref o_trial, .ref o_diary, .int v_acts, .int v_next, .ref o_kept, .ref o_isKept, .ref o_knownPlace, .ref o_knownLetter, .int v_known, .long v_seed, .int v_wide, .int v_bits, .int v_parity, .int v_stops, .int v_idle, .int v_frames, .int v_failed, .int v_failedAt, .int v_margin, .ref o_letters, .ref o_starts, .int v_bestFrames, .ref o_bestLetters, .int v_alike, .int v_fitting, .ref o_deep, .ref o_worth, .int v_readLevel, .int v_readMany, .ref o_readTicks, .int v_part, .int v_ten])), (o_bestLetters, .inl (cI, 64, .inl v_bestLetters)), (o_deep, .inl (cI, 360, .inl v_deep)), (o_letters, .inl (cI, 64, .inl v_letters)), (o_now, .inl (cI, 361, .inl v_now)), (o_starts, .inl (cI, 64, .inl v_starts))]) (post := (fun (r : Int32) (u : Int32 × Int32 × Int32 × Int32 × Int32 × Int32 × Int32 × Int32 × Int32 × Int32 × Int32 × Int32 × (Nat → Int32) × (Nat → Int32) × (Nat → Int32) × (Nat → Int32)) => Q r u.1 u.2.1 u.2.2.1 u.2.2.2.1 u.2.2.2.2.1 u.2.2.2.2.2.1 u.2.2.2.2.2.2.1 u.2.2.2.2.2.2.2.1 u.2.2.2.2.2.2.2.2.1 u.2.2.2.2.2.2.2.2.2.1 u.2.2.2.2.2.2.2.2.2.2.1 u.2.2.2.2.2.2.2.2.2.2.2.1 u.2.2.2.2.2.2.2.2.2.2.2.2.1 u.2.2.2.2.2.2.2.2.2.2.2.2.2.1 u.2.2.2.2.2.2.2.2.2.2.2.2.2.2.1 u.2.2.2.2.2.2.2.2.2.2.2.2.2.2.2)) (w1 := (fun (u : Int32 × Int32 × Int32 × Int32 × Int32 × Int32 × Int32 × Int32 × Int32 × Int32 × Int32 × Int32 × (Nat → Int32) × (Nat → Int32) × (Nat → Int32) × (Nat → Int32)) => [(o, .inr (10, [.ref o_text, .int v_length, .ref o_now, .ref o_trial, .ref o_diary, .int v_acts, .int v_next, .ref o_kept, .ref o_isKept, .ref o_knownPlace, .ref o_knownLetter, .int v_known, .long v_seed, .int u.2.2.2.2.2.2.2.2.2.2.2.1, .int u.2.2.1, .int u.2.2.2.2.2.2.2.2.2.1, .int u.2.2.2.2.2.2.2.2.2.2.1, .int u.2.2.2.2.2.2.2.1, .int u.2.2.2.2.2.2.1, .int u.2.2.2.1, .int u.2.2.2.2.1, .int u.2.2.2.2.2.2.2.2.1, .ref o_letters, .ref o_starts, .int u.2.1, .ref o_bestLetters, .int u.1, .int u.2.2.2.2.2.1, .ref o_deep, .ref o_worth, .int v_readLevel, .int v_readMany, .ref o_readTicks, .int v_part, .int v_ten])), (o_bestLetters, .inl (cI, 64, .inl u.2.2.2.2.2.2.2.2.2.2.2.2.1)), (o_deep, .inl (cI, 360, .inl u.2.2.2.2.2.2.2.2.2.2.2.2.2.1)), (o_letters, .inl (cI, 64, .inl u.2.2.2.2.2.2.2.2.2.2.2.2.2.2.1)), (o_now, .inl (cI, 361, .inl v_now)), (o_starts, .inl (cI, 64, .inl u.2.2.2.2.2.2.2.2.2.2.2.2.2.2.2))])) (cc := cX10_alikes) (maxL := 4) RX10 rfl (by decide +kernel) rfl rfl [(0, .ref o)] rfl ?_
  intro p e s m args below meth c A Qm C hret
  have H16 : ∀ (n16 : Nat) (x1 : Int32) (x2 : Int32) (v_alike : Int32) (v_bestFrames : Int32) (v_bits : Int32) (v_failed : Int32) (v_failedAt : Int32) (v_fitting : Int32) (v_frames : Int32) (v_idle : Int32) (v_margin : Int32) (v_parity : Int32) (v_stops : Int32) (v_wide : Int32) (v_bestLetters : (Nat → Int32)) (v_deep : (Nat → Int32)) (v_letters : (Nat → Int32)) (v_starts : (Nat → Int32)), wX10_alikes_16 fu v_now Q n16 x1 x2 v_alike v_bestFrames v_bits v_failed v_failedAt v_fitting v_frames v_idle v_margin v_parity v_stops v_wide v_bestLetters v_deep v_letters v_starts → G p l e rmX10_alikes s m args below meth c D A 4 0 0 Qm [(o, .inr (10, [.ref o_text, .int v_length, .ref o_now, .ref o_trial, .ref o_diary, .int v_acts, .int v_next, .ref o_kept, .ref o_isKept, .ref o_knownPlace, .ref o_knownLetter, .int v_known, .long v_seed, .int v_wide, .int v_bits, .int v_parity, .int v_stops, .int v_idle, .int v_frames, .int v_failed, .int v_failedAt, .int v_margin, .ref o_letters, .ref o_starts, .int v_bestFrames, .ref o_bestLetters, .int v_alike, .int v_fitting, .ref o_deep, .ref o_worth, .int v_readLevel, .int v_readMany, .ref o_readTicks, .int v_part, .int v_ten])), (o_bestLetters, .inl (cI, 64, .inl v_bestLetters)), (o_deep, .inl (cI, 360, .inl v_deep)), (o_letters, .inl (cI, 64, .inl v_letters)), (o_now, .inl (cI, 361, .inl v_now)), (o_starts, .inl (cI, 64, .inl v_starts))] [(0, .ref o), (1, .int x1), (2, .int x2)] 16 [] := by
    intro n16
    induction n16 with
    | zero => intro x1 x2 v_alike v_bestFrames v_bits v_failed v_failedAt v_fitting v_frames v_idle v_margin v_parity v_stops v_wide v_bestLetters v_deep v_letters v_starts h; exact False.elim h
    | succ n16 ih16 =>
      have H74 : ∀ (x1 : Int32) (x2 : Int32) (k1 : Int32) (k2 : Int32) (v_alike : Int32) (v_bestFrames : Int32) (v_bits : Int32) (v_failed : Int32) (v_failedAt : Int32) (v_fitting : Int32) (v_frames : Int32) (v_idle : Int32) (v_margin : Int32) (v_parity : Int32) (v_stops : Int32) (v_wide : Int32) (v_bestLetters : (Nat → Int32)) (v_deep : (Nat → Int32)) (v_letters : (Nat → Int32)) (v_starts : (Nat → Int32)), wX10_alikes_74 fu v_now Q (wX10_alikes_16 fu v_now Q n16) x1 x2 k1 k2 v_alike v_bestFrames v_bits v_failed v_failedAt v_fitting v_frames v_idle v_margin v_parity v_stops v_wide v_bestLetters v_deep v_letters v_starts → G p l e rmX10_alikes s m args below meth c D A 4 0 0 Qm [(o, .inr (10, [.ref o_text, .int v_length, .ref o_now, .ref o_trial, .ref o_diary, .int v_acts, .int v_next, .ref o_kept, .ref o_isKept, .ref o_knownPlace, .ref o_knownLetter, .int v_known, .long v_seed, .int v_wide, .int v_bits, .int v_parity, .int v_stops, .int v_idle, .int v_frames, .int v_failed, .int v_failedAt, .int v_margin, .ref o_letters, .ref o_starts, .int v_bestFrames, .ref o_bestLetters, .int v_alike, .int v_fitting, .ref o_deep, .ref o_worth, .int v_readLevel, .int v_readMany, .ref o_readTicks, .int v_part, .int v_ten])), (o_bestLetters, .inl (cI, 64, .inl v_bestLetters)), (o_deep, .inl (cI, 360, .inl v_deep)), (o_letters, .inl (cI, 64, .inl v_letters)), (o_now, .inl (cI, 361, .inl v_now)), (o_starts, .inl (cI, 64, .inl v_starts))] [(0, .ref o), (1, .int x1), (2, .int x2)] 74 [.int k2, .int k1, .ref o] := by
        intro x1 x2 k1 k2 v_alike v_bestFrames v_bits v_failed v_failedAt v_fitting v_frames v_idle v_margin v_parity v_stops v_wide v_bestLetters v_deep v_letters v_starts h
        unfold wX10_alikes_74 at h
        refine g_iadd C dX10_alikes_74 ?_
        refine g_put C 10 ix_10 0 _ rfl rfl 26 (by decide) wm_446 rfl tyX10 tyX10_ok nmX10 rfl rfl rfl (Nat.le_of_ble_eq_true rfl) dX10_alikes_75 [(o, .inr (10, [.ref o_text, .int v_length, .ref o_now, .ref o_trial, .ref o_diary, .int v_acts, .int v_next, .ref o_kept, .ref o_isKept, .ref o_knownPlace, .ref o_knownLetter, .int v_known, .long v_seed, .int v_wide, .int v_bits, .int v_parity, .int v_stops, .int v_idle, .int v_frames, .int v_failed, .int v_failedAt, .int v_margin, .ref o_letters, .ref o_starts, .int v_bestFrames, .ref o_bestLetters, .int (k1 + k2), .int v_fitting, .ref o_deep, .ref o_worth, .int v_readLevel, .int v_readMany, .ref o_readTicks, .int v_part, .int v_ten])), (o_bestLetters, .inl (cI, 64, .inl v_bestLetters)), (o_deep, .inl (cI, 360, .inl v_deep)), (o_letters, .inl (cI, 64, .inl v_letters)), (o_now, .inl (cI, 361, .inl v_now)), (o_starts, .inl (cI, 64, .inl v_starts))] rfl ?_
        refine g_iinc C 2 x2 (x2 + (1 : Int32)) [(2, .int (x2 + (1 : Int32))), (0, .ref o), (1, .int x1)] dX10_alikes_78 rfl rfl (by decide) rfl ?_
        refine g_goto C 16 dX10_alikes_81 (by decide) ?_
        refine g_lv [1, 2, 0] rfl ?_
        exact ih16  x1 (x2 + (1 : Int32)) (k1 + k2) v_bestFrames v_bits v_failed v_failedAt v_fitting v_frames v_idle v_margin v_parity v_stops v_wide v_bestLetters v_deep v_letters v_starts h
      have H73 : ∀ (x1 : Int32) (x2 : Int32) (k1 : Int32) (v_alike : Int32) (v_bestFrames : Int32) (v_bits : Int32) (v_failed : Int32) (v_failedAt : Int32) (v_fitting : Int32) (v_frames : Int32) (v_idle : Int32) (v_margin : Int32) (v_parity : Int32) (v_stops : Int32) (v_wide : Int32) (v_bestLetters : (Nat → Int32)) (v_deep : (Nat → Int32)) (v_letters : (Nat → Int32)) (v_starts : (Nat → Int32)), wX10_alikes_73 fu v_now Q (wX10_alikes_16 fu v_now Q n16) x1 x2 k1 v_alike v_bestFrames v_bits v_failed v_failedAt v_fitting v_frames v_idle v_margin v_parity v_stops v_wide v_bestLetters v_deep v_letters v_starts → G p l e rmX10_alikes s m args below meth c D A 4 0 0 Qm [(o, .inr (10, [.ref o_text, .int v_length, .ref o_now, .ref o_trial, .ref o_diary, .int v_acts, .int v_next, .ref o_kept, .ref o_isKept, .ref o_knownPlace, .ref o_knownLetter, .int v_known, .long v_seed, .int v_wide, .int v_bits, .int v_parity, .int v_stops, .int v_idle, .int v_frames, .int v_failed, .int v_failedAt, .int v_margin, .ref o_letters, .ref o_starts, .int v_bestFrames, .ref o_bestLetters, .int v_alike, .int v_fitting, .ref o_deep, .ref o_worth, .int v_readLevel, .int v_readMany, .ref o_readTicks, .int v_part, .int v_ten])), (o_bestLetters, .inl (cI, 64, .inl v_bestLetters)), (o_deep, .inl (cI, 360, .inl v_deep)), (o_letters, .inl (cI, 64, .inl v_letters)), (o_now, .inl (cI, 361, .inl v_now)), (o_starts, .inl (cI, 64, .inl v_starts))] [(0, .ref o), (1, .int x1), (2, .int x2)] 73 [.int k1, .ref o] := by
        intro x1 x2 k1 v_alike v_bestFrames v_bits v_failed v_failedAt v_fitting v_frames v_idle v_margin v_parity v_stops v_wide v_bestLetters v_deep v_letters v_starts h
        unfold wX10_alikes_73 at h
        refine g_iconst C (0 : Int32) dX10_alikes_73 rfl ?_
        refine g_lv [0, 1, 2] rfl ?_
        exact H74  x1 x2 k1 (0 : Int32) v_alike v_bestFrames v_bits v_failed v_failedAt v_fitting v_frames v_idle v_margin v_parity v_stops v_wide v_bestLetters v_deep v_letters v_starts h
      intro x1 x2 v_alike v_bestFrames v_bits v_failed v_failedAt v_fitting v_frames v_idle v_margin v_parity v_stops v_wide v_bestLetters v_deep v_letters v_starts h
      unfold wX10_alikes_16 at h
      refine g_iload_n C 2 2 x2 dX10_alikes_16 rfl rfl ?_
      refine g_sipush C (768 : Int32) dX10_alikes_17 rfl ?_
      refine g_icmp_ge C 84 dX10_alikes_20 (by decide) (fun c17 => ?_) (fun c17 => ?_)
      · have h := wp_t c17 h
        refine g_aload_n C 0 0 o dX10_alikes_84 rfl rfl ?_
        refine g_get C 10 ix_10 0 _ rfl rfl 26 (by decide) wm_446 rfl (.int v_alike) rfl dX10_alikes_85 ?_
        exact hret _ (v_alike, v_bestFrames, v_bits, v_failed, v_failedAt, v_fitting, v_frames, v_idle, v_margin, v_parity, v_stops, v_wide, v_bestLetters, v_deep, v_letters, v_starts) _ _ _ dX10_alikes_88 h rfl
      have h := wp_f c17 h
      refine g_iload_n C 1 1 x1 dX10_alikes_23 rfl rfl ?_
      refine g_bipush C (-9 : Int32) dX10_alikes_24 rfl ?_
      refine g_icmp_eq C 84 dX10_alikes_26 (by decide) (fun c18 => ?_) (fun c18 => ?_)
      · have h := wp_t c18 h
        refine g_aload_n C 0 0 o dX10_alikes_84 rfl rfl ?_
        refine g_get C 10 ix_10 0 _ rfl rfl 26 (by decide) wm_446 rfl (.int v_alike) rfl dX10_alikes_85 ?_
        exact hret _ (v_alike, v_bestFrames, v_bits, v_failed, v_failedAt, v_fitting, v_frames, v_idle, v_margin, v_parity, v_stops, v_wide, v_bestLetters, v_deep, v_letters, v_starts) _ _ _ dX10_alikes_88 h rfl
      have h := wp_f c18 h
      refine g_aload_n C 0 0 o dX10_alikes_29 rfl rfl ?_
      refine g_iload_n C 2 2 x2 dX10_alikes_30 rfl rfl ?_
      refine g_callSi0 (As := [.int x2]) (rest := [.ref o]) C (c_X10_codeOf l D cI cJ cZ cW x2 fu _ h) 1 gd_X10_148 rfl rfl rfl (by decide +kernel) ⟨Nat.le_of_ble_eq_true rfl, Nat.le_of_ble_eq_true rfl⟩ ⟨Nat.le_of_ble_eq_true rfl, Nat.le_of_ble_eq_true rfl⟩ rfl rfl (Nat.le_of_ble_eq_true rfl) [] rfl rfl dX10_alikes_31 (fun r19 h => ?_)
      refine g_callVi (As := [.int r19]) (rest := []) C (c_X10_layCode l D cI cJ cZ cW o o_text o_now o_trial o_diary o_kept o_isKept o_knownPlace o_knownLetter o_letters o_starts o_bestLetters o_deep o_worth o_readTicks v_length v_acts v_next v_known v_seed v_wide v_bits v_parity v_stops v_idle v_frames v_failed v_failedAt v_margin v_bestFrames v_alike v_fitting v_readLevel v_readMany v_part v_ten r19 fu _ h) 1 gd_X10_152 rfl rfl rfl (by decide +kernel) ⟨Nat.le_of_ble_eq_true rfl, Nat.le_of_ble_eq_true rfl⟩ ⟨Nat.le_of_ble_eq_true rfl, Nat.le_of_ble_eq_true rfl⟩ 10 0 rfl rfl rfl rfl (Nat.le_of_ble_eq_true rfl) [0] [some 0, none, none, none, none, none] rfl rfl rfl dX10_alikes_34 (fun r25 u h => ?_)
      obtain ⟨z20, z21, z22, z23, z24⟩ := u
      obtain ⟨hzr25, h⟩ := h
      refine ⟨[(o, .inr (10, [.ref o_text, .int v_length, .ref o_now, .ref o_trial, .ref o_diary, .int v_acts, .int v_next, .ref o_kept, .ref o_isKept, .ref o_knownPlace, .ref o_knownLetter, .int v_known, .long v_seed, .int z24, .int z20, .int z22, .int z23, .int z21, .int v_frames, .int v_failed, .int v_failedAt, .int v_margin, .ref o_letters, .ref o_starts, .int v_bestFrames, .ref o_bestLetters, .int v_alike, .int v_fitting, .ref o_deep, .ref o_worth, .int v_readLevel, .int v_readMany, .ref o_readTicks, .int v_part, .int v_ten])), (o_bestLetters, .inl (cI, 64, .inl v_bestLetters)), (o_deep, .inl (cI, 360, .inl v_deep)), (o_letters, .inl (cI, 64, .inl v_letters)), (o_now, .inl (cI, 361, .inl v_now)), (o_starts, .inl (cI, 64, .inl v_starts))], rfl, rfl, rfl, ?_⟩
      refine g_istore_n C [(3, .int r25), (0, .ref o), (1, .int x1), (2, .int x2)] dX10_alikes_37 rfl (by decide) rfl ?_
      refine g_aload_n C 0 1 o dX10_alikes_38 rfl rfl ?_
      refine g_aload_n C 0 1 o dX10_alikes_39 rfl rfl ?_
      refine g_get C 10 ix_10 0 _ rfl rfl 2 (by decide) wm_128 rfl (.ref o_now) rfl dX10_alikes_40 ?_
      refine g_callVv (As := [.ref o_now]) (rest := []) C (c_X10_read l D cI cJ cZ cW o o_text o_now o_trial o_diary o_kept o_isKept o_knownPlace o_knownLetter o_letters o_starts o_bestLetters o_deep o_worth o_readTicks o_now v_length v_acts v_next v_known v_seed z24 z20 z22 z23 z21 v_frames v_failed v_failedAt v_margin v_bestFrames v_alike v_fitting v_readLevel v_readMany v_part v_ten v_deep v_letters v_starts v_now fu _ h) 1 gd_X10_155 rfl rfl rfl (by decide +kernel) ⟨Nat.le_of_ble_eq_true rfl, Nat.le_of_ble_eq_true rfl⟩ ⟨Nat.le_of_ble_eq_true rfl, Nat.le_of_ble_eq_true rfl⟩ 10 0 rfl rfl rfl rfl (Nat.le_of_ble_eq_true rfl) [0, 2, 3, 5, 4] [some 0, none, some 1, some 2, some 4, some 3] rfl rfl rfl dX10_alikes_43 (fun u h => ?_)
      obtain ⟨z26, z27, z28, z29, z30, z31⟩ := u
      refine ⟨[(o, .inr (10, [.ref o_text, .int v_length, .ref o_now, .ref o_trial, .ref o_diary, .int v_acts, .int v_next, .ref o_kept, .ref o_isKept, .ref o_knownPlace, .ref o_knownLetter, .int v_known, .long v_seed, .int z24, .int z20, .int z22, .int z23, .int z21, .int z28, .int z26, .int z27, .int z29, .ref o_letters, .ref o_starts, .int v_bestFrames, .ref o_bestLetters, .int v_alike, .int v_fitting, .ref o_deep, .ref o_worth, .int v_readLevel, .int v_readMany, .ref o_readTicks, .int v_part, .int v_ten])), (o_bestLetters, .inl (cI, 64, .inl v_bestLetters)), (o_deep, .inl (cI, 360, .inl v_deep)), (o_letters, .inl (cI, 64, .inl z30)), (o_now, .inl (cI, 361, .inl v_now)), (o_starts, .inl (cI, 64, .inl z31))], rfl, rfl, rfl, ?_⟩
      refine g_aload_n C 0 1 o dX10_alikes_46 rfl rfl ?_
      refine g_dup C dX10_alikes_47 rfl ?_
      refine g_get C 10 ix_10 0 _ rfl rfl 26 (by decide) wm_446 rfl (.int v_alike) rfl dX10_alikes_48 ?_
      refine g_iload_n C 3 0 r25 dX10_alikes_51 rfl rfl ?_
      refine g_if_eq C 73 dX10_alikes_52 (by decide) (fun c32 => ?_) (fun c32 => ?_)
      · have h := wp_t c32 h
        refine g_lv [1, 2, 3] rfl ?_
        exact H73  x1 x2 v_alike v_alike v_bestFrames z20 z26 z27 v_fitting z28 z21 z29 z22 z23 z24 v_bestLetters v_deep z30 z31 h
      have h := wp_f c32 h
      refine g_aload_n C 0 1 o dX10_alikes_55 rfl rfl ?_
      refine g_callVi0 (As := []) (rest := [.int v_alike, .ref o]) C (c_X10_fits l D cI cJ cZ cW o o_text o_now o_trial o_diary o_kept o_isKept o_knownPlace o_knownLetter o_letters o_starts o_bestLetters o_deep o_worth o_readTicks v_length v_acts v_next v_known v_seed z24 z20 z22 z23 z21 z28 z26 z27 z29 v_bestFrames v_alike v_fitting v_readLevel v_readMany v_part v_ten fu _ h) 0 gd_X10_158 rfl rfl rfl (by decide +kernel) ⟨Nat.le_of_ble_eq_true rfl, Nat.le_of_ble_eq_true rfl⟩ ⟨Nat.le_of_ble_eq_true rfl, Nat.le_of_ble_eq_true rfl⟩ 10 0 rfl rfl rfl rfl (Nat.le_of_ble_eq_true rfl) [0] rfl rfl dX10_alikes_56 (fun r33 h => ?_)
      obtain ⟨hzr33, h⟩ := h
      refine g_if_eq C 73 dX10_alikes_59 (by decide) (fun c34 => ?_) (fun c34 => ?_)
      · have h := wp_t c34 h
        refine g_lv [1, 2, 3] rfl ?_
        exact H73  x1 x2 v_alike v_alike v_bestFrames z20 z26 z27 v_fitting z28 z21 z29 z22 z23 z24 v_bestLetters v_deep z30 z31 h
      have h := wp_f c34 h
      refine g_aload_n C 0 1 o dX10_alikes_62 rfl rfl ?_
      refine g_callVi0 (As := []) (rest := [.int v_alike, .ref o]) C (c_X10_isAsBest l D cI cJ cZ cW o o_text o_now o_trial o_diary o_kept o_isKept o_knownPlace o_knownLetter o_letters o_starts o_bestLetters o_deep o_worth o_readTicks v_length v_acts v_next v_known v_seed z24 z20 z22 z23 z21 z28 z26 z27 z29 v_bestFrames v_alike v_fitting v_readLevel v_readMany v_part v_ten v_bestLetters z30 fu _ h) 0 gd_X10_169 rfl rfl rfl (by decide +kernel) ⟨Nat.le_of_ble_eq_true rfl, Nat.le_of_ble_eq_true rfl⟩ ⟨Nat.le_of_ble_eq_true rfl, Nat.le_of_ble_eq_true rfl⟩ 10 0 rfl rfl rfl rfl (Nat.le_of_ble_eq_true rfl) [0, 1, 3] rfl rfl dX10_alikes_63 (fun r35 h => ?_)
      obtain ⟨hzr35, h⟩ := h
      refine g_if_eq C 73 dX10_alikes_66 (by decide) (fun c36 => ?_) (fun c36 => ?_)
      · have h := wp_t c36 h
        refine g_lv [1, 2, 3] rfl ?_
        exact H73  x1 x2 v_alike v_alike v_bestFrames z20 z26 z27 v_fitting z28 z21 z29 z22 z23 z24 v_bestLetters v_deep z30 z31 h
      have h := wp_f c36 h
      refine g_iconst C (1 : Int32) dX10_alikes_69 rfl ?_
      refine g_goto C 74 dX10_alikes_70 (by decide) ?_
      refine g_lv [1, 2, 3] rfl ?_
      exact H74  x1 x2 v_alike (1 : Int32) v_alike v_bestFrames z20 z26 z27 v_fitting z28 z21 z29 z22 z23 z24 v_bestLetters v_deep z30 z31 h
  unfold wp_X10_alikes at h
  refine g_aload_n C 0 0 o dX10_alikes_0 rfl rfl ?_
  refine g_iconst C (0 : Int32) dX10_alikes_1 rfl ?_
  refine g_put C 10 ix_10 0 _ rfl rfl 26 (by decide) wm_446 rfl tyX10 tyX10_ok nmX10 rfl rfl rfl (Nat.le_of_ble_eq_true rfl) dX10_alikes_2 [(o, .inr (10, [.ref o_text, .int v_length, .ref o_now, .ref o_trial, .ref o_diary, .int v_acts, .int v_next, .ref o_kept, .ref o_isKept, .ref o_knownPlace, .ref o_knownLetter, .int v_known, .long v_seed, .int v_wide, .int v_bits, .int v_parity, .int v_stops, .int v_idle, .int v_frames, .int v_failed, .int v_failedAt, .int v_margin, .ref o_letters, .ref o_starts, .int v_bestFrames, .ref o_bestLetters, .int (0 : Int32), .int v_fitting, .ref o_deep, .ref o_worth, .int v_readLevel, .int v_readMany, .ref o_readTicks, .int v_part, .int v_ten])), (o_bestLetters, .inl (cI, 64, .inl v_bestLetters)), (o_deep, .inl (cI, 360, .inl v_deep)), (o_letters, .inl (cI, 64, .inl v_letters)), (o_now, .inl (cI, 361, .inl v_now)), (o_starts, .inl (cI, 64, .inl v_starts))] rfl ?_
  refine g_aload_n C 0 0 o dX10_alikes_5 rfl rfl ?_
  refine g_aload_n C 0 0 o dX10_alikes_6 rfl rfl ?_
  refine g_get C 10 ix_10 0 _ rfl rfl 2 (by decide) wm_128 rfl (.ref o_now) rfl dX10_alikes_7 ?_
  refine g_callVi (As := [.ref o_now]) (rest := []) C (c_X10_best l D cI cJ cZ cW o o_text o_now o_trial o_diary o_kept o_isKept o_knownPlace o_knownLetter o_letters o_starts o_bestLetters o_deep o_worth o_readTicks o_now v_length v_acts v_next v_known v_seed v_wide v_bits v_parity v_stops v_idle v_frames v_failed v_failedAt v_margin v_bestFrames (0 : Int32) v_fitting v_readLevel v_readMany v_part v_ten v_bestLetters v_deep v_letters v_starts v_now fu _ h) 1 gd_X10_165 rfl rfl rfl (by decide +kernel) ⟨Nat.le_of_ble_eq_true rfl, Nat.le_of_ble_eq_true rfl⟩ ⟨Nat.le_of_ble_eq_true rfl, Nat.le_of_ble_eq_true rfl⟩ 10 0 rfl rfl rfl rfl (Nat.le_of_ble_eq_true rfl) [0, 1, 2, 3, 5, 4] [some 0, some 1, some 2, some 3, some 5, some 4] rfl rfl rfl dX10_alikes_10 (fun r16 u h => ?_)
  obtain ⟨z1, z2, z3, z4, z5, z6, z7, z8, z9, z10, z11, z12, z13, z14, z15⟩ := u
  refine ⟨[(o, .inr (10, [.ref o_text, .int v_length, .ref o_now, .ref o_trial, .ref o_diary, .int v_acts, .int v_next, .ref o_kept, .ref o_isKept, .ref o_knownPlace, .ref o_knownLetter, .int v_known, .long v_seed, .int z11, .int z2, .int z9, .int z10, .int z7, .int z6, .int z3, .int z4, .int z8, .ref o_letters, .ref o_starts, .int z1, .ref o_bestLetters, .int (0 : Int32), .int z5, .ref o_deep, .ref o_worth, .int v_readLevel, .int v_readMany, .ref o_readTicks, .int v_part, .int v_ten])), (o_bestLetters, .inl (cI, 64, .inl z12)), (o_deep, .inl (cI, 360, .inl z13)), (o_letters, .inl (cI, 64, .inl z14)), (o_now, .inl (cI, 361, .inl v_now)), (o_starts, .inl (cI, 64, .inl z15))], rfl, rfl, rfl, ?_⟩
  refine g_istore_n C [(1, .int r16), (0, .ref o)] dX10_alikes_13 rfl (by decide) rfl ?_
  refine g_iconst C (0 : Int32) dX10_alikes_14 rfl ?_
  refine g_istore_n C [(2, .int (0 : Int32)), (1, .int r16), (0, .ref o)] dX10_alikes_15 rfl (by decide) rfl ?_
  refine g_lv [2, 1, 0] rfl ?_
  exact H16 fu  r16 (0 : Int32) (0 : Int32) z1 z2 z3 z4 z5 z6 z7 z8 z9 z10 z11 z12 z13 z14 z15 h
abbrev rmX10_edges : Room := { frames := 0, cells := 0, slots := 0, locals := 0 }
def wX10_edges_30 (fu : Nat) (v_a0 : (Nat → Int32)) (Q : Int32 → Prop) (K4 : Int32 → Int32 → Prop) (x2 : Int32) (k0 : Int32) (k1 : Int32) : Prop := (∀ y5 : Int32, y5 = (k0 + k1) → K4 y5 (x2 + (1 : Int32)))
def wX10_edges_4 (fu : Nat) (v_a0 : (Nat → Int32)) (Q : Int32 → Prop) : Nat → Int32 → Int32 → Prop
  | 0, _, _ => False
  | n0 + 1, x1, x2 => (if (v_a0 (ix (360 : Int32))) ≤ x2 then Q x1 else (vp_in x2 361 ∧ (vp_in (x2 - (1 : Int32)) 361 ∧ (if (v_a0 (ix x2)) = (v_a0 (ix (x2 - (1 : Int32)))) then wX10_edges_30 fu v_a0 Q (wX10_edges_4 fu v_a0 Q n0) x2 x1 (0 : Int32) else wX10_edges_30 fu v_a0 Q (wX10_edges_4 fu v_a0 Q n0) x2 x1 (1 : Int32)))))
def wp_X10_edges (fu : Nat) (v_a0 : (Nat → Int32)) (Q : Int32 → Prop) : Prop := wX10_edges_4 fu v_a0 Q fu (0 : Int32) (1 : Int32)
set_option maxHeartbeats 4000000 in
set_option maxRecDepth 100000 in
theorem c_X10_edges (l : Launch) (D : va_G) (cI cJ cZ cW : ClassId) (o_a0 : Nat) (v_a0 : (Nat → Int32)) (fu : Nat) (Q : Int32 → Prop) (h : wp_X10_edges fu v_a0 Q) : CtI l yX10_edges wkX10_edges rmX10_edges D (tys4 cI cJ cZ cW) [.ref o_a0] [(o_a0, .inl (cI, 361, .inl v_a0))] (fun (r : Int32) (u : Unit) => Q r ) (fun (_ : Unit) => [(o_a0, .inl (cI, 361, .inl v_a0))]) := by
  refine CtI.of (S := Unit) (y := yX10_edges) (Tc := wkX10_edges) (rm := rmX10_edges) (D := D) (tys := tys4 cI cJ cZ cW) (av := [.ref o_a0]) (wc := [(o_a0, .inl (cI, 361, .inl v_a0))]) (post := (fun (r : Int32) (u : Unit) => Q r )) (w1 := (fun (_ : Unit) => [(o_a0, .inl (cI, 361, .inl v_a0))])) (cc := cX10_edges) (maxL := 3) RX10 rfl (by decide +kernel) rfl rfl [(0, .ref o_a0)] rfl ?_
  intro p e s m args below meth c A Qm C hret
  have H4 : ∀ (n4 : Nat) (x1 : Int32) (x2 : Int32), wX10_edges_4 fu v_a0 Q n4 x1 x2 → G p l e rmX10_edges s m args below meth c D A 3 0 0 Qm [(o_a0, .inl (cI, 361, .inl v_a0))] [(0, .ref o_a0), (1, .int x1), (2, .int x2)] 4 [] := by
    intro n4
    induction n4 with
    | zero => intro x1 x2 h; exact False.elim h
    | succ n4 ih4 =>
      have H30 : ∀ (x2 : Int32) (k0 : Int32) (k1 : Int32), wX10_edges_30 fu v_a0 Q (wX10_edges_4 fu v_a0 Q n4) x2 k0 k1 → G p l e rmX10_edges s m args below meth c D A 3 0 0 Qm [(o_a0, .inl (cI, 361, .inl v_a0))] [(0, .ref o_a0), (2, .int x2)] 30 [.int k1, .int k0] := by
        intro x2 k0 k1 h
        unfold wX10_edges_30 at h
        refine g_iadd C dX10_edges_30 ?_
        refine g_topi (fun y5 ey5 => ?_)
        have h := h y5 ey5
        refine g_istore_n C [(1, .int y5), (0, .ref o_a0), (2, .int x2)] dX10_edges_31 rfl (by decide) rfl ?_
        refine g_iinc C 2 x2 (x2 + (1 : Int32)) [(2, .int (x2 + (1 : Int32))), (1, .int y5), (0, .ref o_a0)] dX10_edges_32 rfl rfl (by decide) rfl ?_
        refine g_goto C 4 dX10_edges_35 (by decide) ?_
        refine g_lv [2, 1, 0] rfl ?_
        exact ih4  y5 (x2 + (1 : Int32)) h
      intro x1 x2 h
      unfold wX10_edges_4 at h
      refine g_iload_n C 2 2 x2 dX10_edges_4 rfl rfl ?_
      refine g_aload_n C 0 0 o_a0 dX10_edges_5 rfl rfl ?_
      refine g_sipush C (360 : Int32) dX10_edges_6 rfl ?_
      refine g_iald C 0 0 cI 361 v_a0 rfl rfl (vp_in_dec rfl) dX10_edges_9 ?_
      refine g_icmp_ge C 38 dX10_edges_10 (by decide) (fun c1 => ?_) (fun c1 => ?_)
      · have h := wp_t c1 h
        refine g_iload_n C 1 1 x1 dX10_edges_38 rfl rfl ?_
        exact hret _ () _ _ _ dX10_edges_39 h rfl
      have h := wp_f c1 h
      refine g_iload_n C 1 1 x1 dX10_edges_13 rfl rfl ?_
      refine g_aload_n C 0 0 o_a0 dX10_edges_14 rfl rfl ?_
      refine g_iload_n C 2 2 x2 dX10_edges_15 rfl rfl ?_
      obtain ⟨hi2, h⟩ := h
      refine g_iald C 0 0 cI 361 v_a0 rfl rfl hi2 dX10_edges_16 ?_
      refine g_aload_n C 0 0 o_a0 dX10_edges_17 rfl rfl ?_
      refine g_iload_n C 2 2 x2 dX10_edges_18 rfl rfl ?_
      refine g_iconst C (1 : Int32) dX10_edges_19 rfl ?_
      refine g_isub C dX10_edges_20 ?_
      obtain ⟨hi3, h⟩ := h
      refine g_iald C 0 0 cI 361 v_a0 rfl rfl hi3 dX10_edges_21 ?_
      refine g_icmp_eq C 29 dX10_edges_22 (by decide) (fun c4 => ?_) (fun c4 => ?_)
      · have h := wp_t c4 h
        refine g_iconst C (0 : Int32) dX10_edges_29 rfl ?_
        refine g_lv [0, 2] rfl ?_
        exact H30  x2 x1 (0 : Int32) h
      have h := wp_f c4 h
      refine g_iconst C (1 : Int32) dX10_edges_25 rfl ?_
      refine g_goto C 30 dX10_edges_26 (by decide) ?_
      refine g_lv [0, 2] rfl ?_
      exact H30  x2 x1 (1 : Int32) h
  unfold wp_X10_edges at h
  refine g_iconst C (0 : Int32) dX10_edges_0 rfl ?_
  refine g_istore_n C [(1, .int (0 : Int32)), (0, .ref o_a0)] dX10_edges_1 rfl (by decide) rfl ?_
  refine g_iconst C (1 : Int32) dX10_edges_2 rfl ?_
  refine g_istore_n C [(2, .int (1 : Int32)), (1, .int (0 : Int32)), (0, .ref o_a0)] dX10_edges_3 rfl (by decide) rfl ?_
  refine g_lv [2, 1, 0] rfl ?_
  exact H4 fu  (0 : Int32) (1 : Int32) h
abbrev rmX10_runOf : Room := { frames := 0, cells := 0, slots := 0, locals := 0 }
def wX10_runOf_63 (fu : Nat) (v_now : (Nat → Int32)) (x1 : Int32) (Q : Int32 → Prop) (K7 : Int32 → Int32 → Int32 → Prop) (x2 : Int32) (x4 : Int32) (k0 : Int32) (k1 : Int32) : Prop := (∀ y8 : Int32, y8 = (k0 + k1) → K7 x2 y8 (x4 + (1 : Int32)))
def wX10_runOf_50 (fu : Nat) (v_now : (Nat → Int32)) (x1 : Int32) (Q : Int32 → Prop) (K7 : Int32 → Int32 → Int32 → Prop) (x3 : Int32) (x4 : Int32) (k0 : Int32) (k1 : Int32) : Prop := (∀ y6 : Int32, y6 = (k0 + k1) → (if y6 = x1 then wX10_runOf_63 fu v_now x1 Q K7 y6 x4 x3 (1 : Int32) else wX10_runOf_63 fu v_now x1 Q K7 y6 x4 x3 (0 : Int32)))
def wX10_runOf_49 (fu : Nat) (v_now : (Nat → Int32)) (x1 : Int32) (Q : Int32 → Prop) (K7 : Int32 → Int32 → Int32 → Prop) (x3 : Int32) (x4 : Int32) (k0 : Int32) : Prop := wX10_runOf_50 fu v_now x1 Q K7 x3 x4 k0 (0 : Int32)
def wX10_runOf_7 (fu : Nat) (v_now : (Nat → Int32)) (x1 : Int32) (Q : Int32 → Prop) : Nat → Int32 → Int32 → Int32 → Prop
  | 0, _, _, _ => False
  | n0 + 1, x2, x3, x4 => (if (v_now (ix (360 : Int32))) ≤ x4 then Q x3 else (if x4 ≤ 0 then wX10_runOf_49 fu v_now x1 Q (wX10_runOf_7 fu v_now x1 Q n0) x3 x4 x2 else (vp_in x4 361 ∧ (vp_in (x4 - (1 : Int32)) 361 ∧ (if (v_now (ix x4)) = (v_now (ix (x4 - (1 : Int32)))) then wX10_runOf_49 fu v_now x1 Q (wX10_runOf_7 fu v_now x1 Q n0) x3 x4 x2 else wX10_runOf_50 fu v_now x1 Q (wX10_runOf_7 fu v_now x1 Q n0) x3 x4 x2 (1 : Int32))))))
def wp_X10_runOf (fu : Nat) (v_now : (Nat → Int32)) (x1 : Int32) (Q : Int32 → Prop) : Prop := wX10_runOf_7 fu v_now x1 Q fu (0 : Int32) (0 : Int32) (0 : Int32)
set_option maxHeartbeats 4000000 in
set_option maxRecDepth 100000 in
theorem c_X10_runOf (l : Launch) (D : va_G) (cI cJ cZ cW : ClassId) (o o_text o_now o_trial o_diary o_kept o_isKept o_knownPlace o_knownLetter o_letters o_starts o_bestLetters o_deep o_worth o_readTicks : Nat) (v_length : Int32) (v_acts : Int32) (v_next : Int32) (v_known : Int32) (v_seed : Int64) (v_wide : Int32) (v_bits : Int32) (v_parity : Int32) (v_stops : Int32) (v_idle : Int32) (v_frames : Int32) (v_failed : Int32) (v_failedAt : Int32) (v_margin : Int32) (v_bestFrames : Int32) (v_alike : Int32) (v_fitting : Int32) (v_readLevel : Int32) (v_readMany : Int32) (v_part : Int32) (v_ten : Int32) (v_now : (Nat → Int32)) (x1 : Int32) (fu : Nat) (Q : Int32 → Prop) (h : wp_X10_runOf fu v_now x1 Q) : CtI l yX10_runOf wkX10_runOf rmX10_runOf D (tys4 cI cJ cZ cW) [.ref o, .int x1] [(o, .inr (10, [.ref o_text, .int v_length, .ref o_now, .ref o_trial, .ref o_diary, .int v_acts, .int v_next, .ref o_kept, .ref o_isKept, .ref o_knownPlace, .ref o_knownLetter, .int v_known, .long v_seed, .int v_wide, .int v_bits, .int v_parity, .int v_stops, .int v_idle, .int v_frames, .int v_failed, .int v_failedAt, .int v_margin, .ref o_letters, .ref o_starts, .int v_bestFrames, .ref o_bestLetters, .int v_alike, .int v_fitting, .ref o_deep, .ref o_worth, .int v_readLevel, .int v_readMany, .ref o_readTicks, .int v_part, .int v_ten])), (o_now, .inl (cI, 361, .inl v_now))] (fun (r : Int32) (u : Unit) => Q r ) (fun (_ : Unit) => [(o, .inr (10, [.ref o_text, .int v_length, .ref o_now, .ref o_trial, .ref o_diary, .int v_acts, .int v_next, .ref o_kept, .ref o_isKept, .ref o_knownPlace, .ref o_knownLetter, .int v_known, .long v_seed, .int v_wide, .int v_bits, .int v_parity, .int v_stops, .int v_idle, .int v_frames, .int v_failed, .int v_failedAt, .int v_margin, .ref o_letters, .ref o_starts, .int v_bestFrames, .ref o_bestLetters, .int v_alike, .int v_fitting, .ref o_deep, .ref o_worth, .int v_readLevel, .int v_readMany, .ref o_readTicks, .int v_part, .int v_ten])), (o_now, .inl (cI, 361, .inl v_now))]) := by
  refine CtI.of (S := Unit) (y := yX10_runOf) (Tc := wkX10_runOf) (rm := rmX10_runOf) (D := D) (tys := tys4 cI cJ cZ cW) (av := [.ref o, .int x1]) (wc := [(o, .inr (10, [.ref o_text, .int v_length, .ref o_now, .ref o_trial, .ref o_diary, .int v_acts, .int v_next, .ref o_kept, .ref o_isKept, .ref o_knownPlace, .ref o_knownLetter, .int v_known, .long v_seed, .int v_wide, .int v_bits, .int v_parity, .int v_stops, .int v_idle, .int v_frames, .int v_failed, .int v_failedAt, .int v_margin, .ref o_letters, .ref o_starts, .int v_bestFrames, .ref o_bestLetters, .int v_alike, .int v_fitting, .ref o_deep, .ref o_worth, .int v_readLevel, .int v_readMany, .ref o_readTicks, .int v_part, .int v_ten])), (o_now, .inl (cI, 361, .inl v_now))]) (post := (fun (r : Int32) (u : Unit) => Q r )) (w1 := (fun (_ : Unit) => [(o, .inr (10, [.ref o_text, .int v_length, .ref o_now, .ref o_trial, .ref o_diary, .int v_acts, .int v_next, .ref o_kept, .ref o_isKept, .ref o_knownPlace, .ref o_knownLetter, .int v_known, .long v_seed, .int v_wide, .int v_bits, .int v_parity, .int v_stops, .int v_idle, .int v_frames, .int v_failed, .int v_failedAt, .int v_margin, .ref o_letters, .ref o_starts, .int v_bestFrames, .ref o_bestLetters, .int v_alike, .int v_fitting, .ref o_deep, .ref o_worth, .int v_readLevel, .int v_readMany, .ref o_readTicks, .int v_part, .int v_ten])), (o_now, .inl (cI, 361, .inl v_now))])) (cc := cX10_runOf) (maxL := 5) RX10 rfl (by decide +kernel) rfl rfl [(0, .ref o), (1, .int x1)] rfl ?_
  intro p e s m args below meth c A Qm C hret
  have H7 : ∀ (n7 : Nat) (x2 : Int32) (x3 : Int32) (x4 : Int32), wX10_runOf_7 fu v_now x1 Q n7 x2 x3 x4 → G p l e rmX10_runOf s m args below meth c D A 5 0 0 Qm [(o, .inr (10, [.ref o_text, .int v_length, .ref o_now, .ref o_trial, .ref o_diary, .int v_acts, .int v_next, .ref o_kept, .ref o_isKept, .ref o_knownPlace, .ref o_knownLetter, .int v_known, .long v_seed, .int v_wide, .int v_bits, .int v_parity, .int v_stops, .int v_idle, .int v_frames, .int v_failed, .int v_failedAt, .int v_margin, .ref o_letters, .ref o_starts, .int v_bestFrames, .ref o_bestLetters, .int v_alike, .int v_fitting, .ref o_deep, .ref o_worth, .int v_readLevel, .int v_readMany, .ref o_readTicks, .int v_part, .int v_ten])), (o_now, .inl (cI, 361, .inl v_now))] [(0, .ref o), (1, .int x1), (2, .int x2), (3, .int x3), (4, .int x4)] 7 [] := by
    intro n7
    induction n7 with
    | zero => intro x2 x3 x4 h; exact False.elim h
    | succ n7 ih7 =>
      have H63 : ∀ (x2 : Int32) (x4 : Int32) (k0 : Int32) (k1 : Int32), wX10_runOf_63 fu v_now x1 Q (wX10_runOf_7 fu v_now x1 Q n7) x2 x4 k0 k1 → G p l e rmX10_runOf s m args below meth c D A 5 0 0 Qm [(o, .inr (10, [.ref o_text, .int v_length, .ref o_now, .ref o_trial, .ref o_diary, .int v_acts, .int v_next, .ref o_kept, .ref o_isKept, .ref o_knownPlace, .ref o_knownLetter, .int v_known, .long v_seed, .int v_wide, .int v_bits, .int v_parity, .int v_stops, .int v_idle, .int v_frames, .int v_failed, .int v_failedAt, .int v_margin, .ref o_letters, .ref o_starts, .int v_bestFrames, .ref o_bestLetters, .int v_alike, .int v_fitting, .ref o_deep, .ref o_worth, .int v_readLevel, .int v_readMany, .ref o_readTicks, .int v_part, .int v_ten])), (o_now, .inl (cI, 361, .inl v_now))] [(0, .ref o), (1, .int x1), (2, .int x2), (4, .int x4)] 63 [.int k1, .int k0] := by
        intro x2 x4 k0 k1 h
        unfold wX10_runOf_63 at h
        refine g_iadd C dX10_runOf_63 ?_
        refine g_topi (fun y8 ey8 => ?_)
        have h := h y8 ey8
        refine g_istore_n C [(3, .int y8), (0, .ref o), (1, .int x1), (2, .int x2), (4, .int x4)] dX10_runOf_64 rfl (by decide) rfl ?_
        refine g_iinc C 4 x4 (x4 + (1 : Int32)) [(4, .int (x4 + (1 : Int32))), (3, .int y8), (0, .ref o), (1, .int x1), (2, .int x2)] dX10_runOf_65 rfl rfl (by decide) rfl ?_
        refine g_goto C 7 dX10_runOf_68 (by decide) ?_
        refine g_lv [2, 3, 4, 1, 0] rfl ?_
        exact ih7  x2 y8 (x4 + (1 : Int32)) h
      have H50 : ∀ (x3 : Int32) (x4 : Int32) (k0 : Int32) (k1 : Int32), wX10_runOf_50 fu v_now x1 Q (wX10_runOf_7 fu v_now x1 Q n7) x3 x4 k0 k1 → G p l e rmX10_runOf s m args below meth c D A 5 0 0 Qm [(o, .inr (10, [.ref o_text, .int v_length, .ref o_now, .ref o_trial, .ref o_diary, .int v_acts, .int v_next, .ref o_kept, .ref o_isKept, .ref o_knownPlace, .ref o_knownLetter, .int v_known, .long v_seed, .int v_wide, .int v_bits, .int v_parity, .int v_stops, .int v_idle, .int v_frames, .int v_failed, .int v_failedAt, .int v_margin, .ref o_letters, .ref o_starts, .int v_bestFrames, .ref o_bestLetters, .int v_alike, .int v_fitting, .ref o_deep, .ref o_worth, .int v_readLevel, .int v_readMany, .ref o_readTicks, .int v_part, .int v_ten])), (o_now, .inl (cI, 361, .inl v_now))] [(0, .ref o), (1, .int x1), (3, .int x3), (4, .int x4)] 50 [.int k1, .int k0] := by
        intro x3 x4 k0 k1 h
        unfold wX10_runOf_50 at h
        refine g_iadd C dX10_runOf_50 ?_
        refine g_topi (fun y6 ey6 => ?_)
        have h := h y6 ey6
        refine g_istore_n C [(2, .int y6), (0, .ref o), (1, .int x1), (3, .int x3), (4, .int x4)] dX10_runOf_51 rfl (by decide) rfl ?_
        refine g_iload_n C 3 3 x3 dX10_runOf_52 rfl rfl ?_
        refine g_iload_n C 2 0 y6 dX10_runOf_53 rfl rfl ?_
        refine g_iload_n C 1 2 x1 dX10_runOf_54 rfl rfl ?_
        refine g_icmp_ne C 62 dX10_runOf_55 (by decide) (fun c7 => ?_) (fun c7 => ?_)
        · have h := wp_f c7 h
          refine g_iconst C (0 : Int32) dX10_runOf_62 rfl ?_
          refine g_lv [1, 2, 0, 4] rfl ?_
          exact H63  y6 x4 x3 (0 : Int32) h
        have h := wp_t c7 h
        refine g_iconst C (1 : Int32) dX10_runOf_58 rfl ?_
        refine g_goto C 63 dX10_runOf_59 (by decide) ?_
        refine g_lv [1, 2, 0, 4] rfl ?_
        exact H63  y6 x4 x3 (1 : Int32) h
      have H49 : ∀ (x3 : Int32) (x4 : Int32) (k0 : Int32), wX10_runOf_49 fu v_now x1 Q (wX10_runOf_7 fu v_now x1 Q n7) x3 x4 k0 → G p l e rmX10_runOf s m args below meth c D A 5 0 0 Qm [(o, .inr (10, [.ref o_text, .int v_length, .ref o_now, .ref o_trial, .ref o_diary, .int v_acts, .int v_next, .ref o_kept, .ref o_isKept, .ref o_knownPlace, .ref o_knownLetter, .int v_known, .long v_seed, .int v_wide, .int v_bits, .int v_parity, .int v_stops, .int v_idle, .int v_frames, .int v_failed, .int v_failedAt, .int v_margin, .ref o_letters, .ref o_starts, .int v_bestFrames, .ref o_bestLetters, .int v_alike, .int v_fitting, .ref o_deep, .ref o_worth, .int v_readLevel, .int v_readMany, .ref o_readTicks, .int v_part, .int v_ten])), (o_now, .inl (cI, 361, .inl v_now))] [(0, .ref o), (1, .int x1), (3, .int x3), (4, .int x4)] 49 [.int k0] := by
        intro x3 x4 k0 h
        unfold wX10_runOf_49 at h
        refine g_iconst C (0 : Int32) dX10_runOf_49 rfl ?_
        refine g_lv [0, 1, 2, 3] rfl ?_
        exact H50  x3 x4 k0 (0 : Int32) h
      intro x2 x3 x4 h
      unfold wX10_runOf_7 at h
      refine g_iload C 4 4 x4 dX10_runOf_7 rfl ?_
      refine g_aload_n C 0 0 o dX10_runOf_9 rfl rfl ?_
      refine g_get C 10 ix_10 0 _ rfl rfl 2 (by decide) wm_128 rfl (.ref o_now) rfl dX10_runOf_10 ?_
      refine g_sipush C (360 : Int32) dX10_runOf_13 rfl ?_
      refine g_iald C 1 0 cI 361 v_now rfl rfl (vp_in_dec rfl) dX10_runOf_16 ?_
      refine g_icmp_ge C 71 dX10_runOf_17 (by decide) (fun c1 => ?_) (fun c1 => ?_)
      · have h := wp_t c1 h
        refine g_iload_n C 3 3 x3 dX10_runOf_71 rfl rfl ?_
        exact hret _ () _ _ _ dX10_runOf_72 h rfl
      have h := wp_f c1 h
      refine g_iload_n C 2 2 x2 dX10_runOf_20 rfl rfl ?_
      refine g_iload C 4 4 x4 dX10_runOf_21 rfl ?_
      refine g_if_le C 49 dX10_runOf_23 (by decide) (fun c2 => ?_) (fun c2 => ?_)
      · have h := wp_t c2 h
        refine g_lv [0, 1, 3, 4] rfl ?_
        exact H49  x3 x4 x2 h
      have h := wp_f c2 h
      refine g_aload_n C 0 0 o dX10_runOf_26 rfl rfl ?_
      refine g_get C 10 ix_10 0 _ rfl rfl 2 (by decide) wm_128 rfl (.ref o_now) rfl dX10_runOf_27 ?_
      refine g_iload C 4 4 x4 dX10_runOf_30 rfl ?_
      obtain ⟨hi3, h⟩ := h
      refine g_iald C 1 0 cI 361 v_now rfl rfl hi3 dX10_runOf_32 ?_
      refine g_aload_n C 0 0 o dX10_runOf_33 rfl rfl ?_
      refine g_get C 10 ix_10 0 _ rfl rfl 2 (by decide) wm_128 rfl (.ref o_now) rfl dX10_runOf_34 ?_
      refine g_iload C 4 4 x4 dX10_runOf_37 rfl ?_
      refine g_iconst C (1 : Int32) dX10_runOf_39 rfl ?_
      refine g_isub C dX10_runOf_40 ?_
      obtain ⟨hi4, h⟩ := h
      refine g_iald C 1 0 cI 361 v_now rfl rfl hi4 dX10_runOf_41 ?_
      refine g_icmp_eq C 49 dX10_runOf_42 (by decide) (fun c5 => ?_) (fun c5 => ?_)
      · have h := wp_t c5 h
        refine g_lv [0, 1, 3, 4] rfl ?_
        exact H49  x3 x4 x2 h
      have h := wp_f c5 h
      refine g_iconst C (1 : Int32) dX10_runOf_45 rfl ?_
      refine g_goto C 50 dX10_runOf_46 (by decide) ?_
      refine g_lv [0, 1, 3, 4] rfl ?_
      exact H50  x3 x4 x2 (1 : Int32) h
  unfold wp_X10_runOf at h
  refine g_iconst C (0 : Int32) dX10_runOf_0 rfl ?_
  refine g_istore_n C [(2, .int (0 : Int32)), (0, .ref o), (1, .int x1)] dX10_runOf_1 rfl (by decide) rfl ?_
  refine g_iconst C (0 : Int32) dX10_runOf_2 rfl ?_
  refine g_istore_n C [(3, .int (0 : Int32)), (2, .int (0 : Int32)), (0, .ref o), (1, .int x1)] dX10_runOf_3 rfl (by decide) rfl ?_
  refine g_iconst C (0 : Int32) dX10_runOf_4 rfl ?_
  refine g_istore C [(4, .int (0 : Int32)), (3, .int (0 : Int32)), (2, .int (0 : Int32)), (0, .ref o), (1, .int x1)] dX10_runOf_5 (by decide) rfl ?_
  refine g_lv [3, 4, 2, 1, 0] rfl ?_
  exact H7 fu  (0 : Int32) (0 : Int32) (0 : Int32) h
abbrev rmX10_offOf : Room := { frames := 0, cells := 0, slots := 0, locals := 0 }
def wX10_offOf_31 (fu : Nat) (x0 : Int32) (x1 : Int32) (Q : Int32 → Prop) (x3 : Int32) (k0 : Int32) : Prop := (if k0 ≤ x3 then Q k0 else Q x3)
def wX10_offOf_16 (fu : Nat) (x0 : Int32) (x1 : Int32) (Q : Int32 → Prop) (x2 : Int32) (k0 : Int32) : Prop := (if x1 ≤ x0 then wX10_offOf_31 fu x0 x1 Q k0 (x1 - x2) else wX10_offOf_31 fu x0 x1 Q k0 (x1 - x0))
def wp_X10_offOf (fu : Nat) (x0 : Int32) (x1 : Int32) (Q : Int32 → Prop) : Prop := (¬ x1 = 0 ∧ (∀ y2 : Int32, y2 = (irm x0 x1) → (if x1 ≤ x0 then wX10_offOf_16 fu x0 x1 Q y2 y2 else wX10_offOf_16 fu x0 x1 Q y2 (x1 - x0))))
set_option maxHeartbeats 4000000 in
set_option maxRecDepth 100000 in
theorem c_X10_offOf (l : Launch) (D : va_G) (cI cJ cZ cW : ClassId) (x0 : Int32) (x1 : Int32) (fu : Nat) (Q : Int32 → Prop) (h : wp_X10_offOf fu x0 x1 Q) : CtI l yX10_offOf wkX10_offOf rmX10_offOf D (tys4 cI cJ cZ cW) [.int x0, .int x1] [] (fun (r : Int32) (u : Unit) => Q r ) (fun (_ : Unit) => []) := by
  refine CtI.of (S := Unit) (y := yX10_offOf) (Tc := wkX10_offOf) (rm := rmX10_offOf) (D := D) (tys := tys4 cI cJ cZ cW) (av := [.int x0, .int x1]) (wc := []) (post := (fun (r : Int32) (u : Unit) => Q r )) (w1 := (fun (_ : Unit) => [])) (cc := cX10_offOf) (maxL := 5) RX10 rfl (by decide +kernel) rfl rfl [(0, .int x0), (1, .int x1)] rfl ?_
  intro p e s m args below meth c A Qm C hret
  have H31 : ∀ (x3 : Int32) (k0 : Int32), wX10_offOf_31 fu x0 x1 Q x3 k0 → G p l e rmX10_offOf s m args below meth c D A 5 0 0 Qm [] [(3, .int x3)] 31 [.int k0] := by
    intro x3 k0 h
    unfold wX10_offOf_31 at h
    refine g_istore C [(4, .int k0), (3, .int x3)] dX10_offOf_31 (by decide) rfl ?_
    refine g_iload_n C 3 1 x3 dX10_offOf_33 rfl rfl ?_
    refine g_iload C 4 0 k0 dX10_offOf_34 rfl ?_
    refine g_icmp_ge C 43 dX10_offOf_36 (by decide) (fun c5 => ?_) (fun c5 => ?_)
    · have h := wp_t c5 h
      refine g_iload C 4 0 k0 dX10_offOf_43 rfl ?_
      exact hret _ () _ _ _ dX10_offOf_45 h rfl
    have h := wp_f c5 h
    refine g_iload_n C 3 1 x3 dX10_offOf_39 rfl rfl ?_
    refine g_goto C 45 dX10_offOf_40 (by decide) ?_
    exact hret _ () _ _ _ dX10_offOf_45 h rfl
  have H16 : ∀ (x2 : Int32) (k0 : Int32), wX10_offOf_16 fu x0 x1 Q x2 k0 → G p l e rmX10_offOf s m args below meth c D A 5 0 0 Qm [] [(0, .int x0), (1, .int x1), (2, .int x2)] 16 [.int k0] := by
    intro x2 k0 h
    unfold wX10_offOf_16 at h
    refine g_istore_n C [(3, .int k0), (0, .int x0), (1, .int x1), (2, .int x2)] dX10_offOf_16 rfl (by decide) rfl ?_
    refine g_iload_n C 0 1 x0 dX10_offOf_17 rfl rfl ?_
    refine g_iload_n C 1 2 x1 dX10_offOf_18 rfl rfl ?_
    refine g_icmp_ge C 28 dX10_offOf_19 (by decide) (fun c4 => ?_) (fun c4 => ?_)
    · have h := wp_t c4 h
      refine g_iload_n C 1 2 x1 dX10_offOf_28 rfl rfl ?_
      refine g_iload_n C 2 3 x2 dX10_offOf_29 rfl rfl ?_
      refine g_isub C dX10_offOf_30 ?_
      refine g_lv [0] rfl ?_
      exact H31  k0 (x1 - x2) h
    have h := wp_f c4 h
    refine g_iload_n C 1 2 x1 dX10_offOf_22 rfl rfl ?_
    refine g_iload_n C 0 1 x0 dX10_offOf_23 rfl rfl ?_
    refine g_isub C dX10_offOf_24 ?_
    refine g_goto C 31 dX10_offOf_25 (by decide) ?_
    refine g_lv [0] rfl ?_
    exact H31  k0 (x1 - x0) h
  unfold wp_X10_offOf at h
  refine g_iload_n C 0 0 x0 dX10_offOf_0 rfl rfl ?_
  refine g_iload_n C 1 1 x1 dX10_offOf_1 rfl rfl ?_
  obtain ⟨hn1, h⟩ := h
  refine g_irem C hn1 dX10_offOf_2 ?_
  refine g_topi (fun y2 ey2 => ?_)
  have h := h y2 ey2
  refine g_istore_n C [(2, .int y2), (0, .int x0), (1, .int x1)] dX10_offOf_3 rfl (by decide) rfl ?_
  refine g_iload_n C 0 1 x0 dX10_offOf_4 rfl rfl ?_
  refine g_iload_n C 1 2 x1 dX10_offOf_5 rfl rfl ?_
  refine g_icmp_ge C 15 dX10_offOf_6 (by decide) (fun c3 => ?_) (fun c3 => ?_)
  · have h := wp_t c3 h
    refine g_iload_n C 2 0 y2 dX10_offOf_15 rfl rfl ?_
    refine g_lv [1, 2, 0] rfl ?_
    exact H16  y2 y2 h
  have h := wp_f c3 h
  refine g_iload_n C 1 2 x1 dX10_offOf_9 rfl rfl ?_
  refine g_iload_n C 0 1 x0 dX10_offOf_10 rfl rfl ?_
  refine g_isub C dX10_offOf_11 ?_
  refine g_goto C 16 dX10_offOf_12 (by decide) ?_
  refine g_lv [1, 2, 0] rfl ?_
  exact H16  y2 (x1 - x0) h
abbrev rmX10_offBy : Room := { frames := 1, cells := 0, slots := 0, locals := 24 }
def wX10_offBy_13 (fu : Nat) (v_now : (Nat → Int32)) (x1 : Int32) (Q : Int32 → Prop) : Nat → Int32 → Int32 → Int32 → Prop
  | 0, _, _, _ => False
  | n0 + 1, x2, x3, x4 => (if x3 ≤ x4 then Q x2 else wp_X10_runOf fu v_now x4 (fun (r3 : Int32) => wp_X10_offOf fu r3 x1 (fun (r4 : Int32) => (∀ y5 : Int32, y5 = (x2 + r4) → (wX10_offBy_13 fu v_now x1 Q n0) y5 x3 (x4 + (1 : Int32))))))
def wp_X10_offBy (fu : Nat) (v_now : (Nat → Int32)) (x1 : Int32) (Q : Int32 → Prop) : Prop := wp_X10_edges fu v_now (fun (r1 : Int32) => wX10_offBy_13 fu v_now x1 Q fu (0 : Int32) r1 (1 : Int32))
set_option maxHeartbeats 4000000 in
set_option maxRecDepth 100000 in
theorem c_X10_offBy (l : Launch) (D : va_G) (cI cJ cZ cW : ClassId) (o o_text o_now o_trial o_diary o_kept o_isKept o_knownPlace o_knownLetter o_letters o_starts o_bestLetters o_deep o_worth o_readTicks : Nat) (v_length : Int32) (v_acts : Int32) (v_next : Int32) (v_known : Int32) (v_seed : Int64) (v_wide : Int32) (v_bits : Int32) (v_parity : Int32) (v_stops : Int32) (v_idle : Int32) (v_frames : Int32) (v_failed : Int32) (v_failedAt : Int32) (v_margin : Int32) (v_bestFrames : Int32) (v_alike : Int32) (v_fitting : Int32) (v_readLevel : Int32) (v_readMany : Int32) (v_part : Int32) (v_ten : Int32) (v_now : (Nat → Int32)) (x1 : Int32) (fu : Nat) (Q : Int32 → Prop) (h : wp_X10_offBy fu v_now x1 Q) : CtI l yX10_offBy wkX10_offBy rmX10_offBy D (tys4 cI cJ cZ cW) [.ref o, .int x1] [(o, .inr (10, [.ref o_text, .int v_length, .ref o_now, .ref o_trial, .ref o_diary, .int v_acts, .int v_next, .ref o_kept, .ref o_isKept, .ref o_knownPlace, .ref o_knownLetter, .int v_known, .long v_seed, .int v_wide, .int v_bits, .int v_parity, .int v_stops, .int v_idle, .int v_frames, .int v_failed, .int v_failedAt, .int v_margin, .ref o_letters, .ref o_starts, .int v_bestFrames, .ref o_bestLetters, .int v_alike, .int v_fitting, .ref o_deep, .ref o_worth, .int v_readLevel, .int v_readMany, .ref o_readTicks, .int v_part, .int v_ten])), (o_now, .inl (cI, 361, .inl v_now))] (fun (r : Int32) (u : Unit) => Q r ) (fun (_ : Unit) => [(o, .inr (10, [.ref o_text, .int v_length, .ref o_now, .ref o_trial, .ref o_diary, .int v_acts, .int v_next, .ref o_kept, .ref o_isKept, .ref o_knownPlace, .ref o_knownLetter, .int v_known, .long v_seed, .int v_wide, .int v_bits, .int v_parity, .int v_stops, .int v_idle, .int v_frames, .int v_failed, .int v_failedAt, .int v_margin, .ref o_letters, .ref o_starts, .int v_bestFrames, .ref o_bestLetters, .int v_alike, .int v_fitting, .ref o_deep, .ref o_worth, .int v_readLevel, .int v_readMany, .ref o_readTicks, .int v_part, .int v_ten])), (o_now, .inl (cI, 361, .inl v_now))]) := by
  refine CtI.of (S := Unit) (y := yX10_offBy) (Tc := wkX10_offBy) (rm := rmX10_offBy) (D := D) (tys := tys4 cI cJ cZ cW) (av := [.ref o, .int x1]) (wc := [(o, .inr (10, [.ref o_text, .int v_length, .ref o_now, .ref o_trial, .ref o_diary, .int v_acts, .int v_next, .ref o_kept, .ref o_isKept, .ref o_knownPlace, .ref o_knownLetter, .int v_known, .long v_seed, .int v_wide, .int v_bits, .int v_parity, .int v_stops, .int v_idle, .int v_frames, .int v_failed, .int v_failedAt, .int v_margin, .ref o_letters, .ref o_starts, .int v_bestFrames, .ref o_bestLetters, .int v_alike, .int v_fitting, .ref o_deep, .ref o_worth, .int v_readLevel, .int v_readMany, .ref o_readTicks, .int v_part, .int v_ten])), (o_now, .inl (cI, 361, .inl v_now))]) (post := (fun (r : Int32) (u : Unit) => Q r )) (w1 := (fun (_ : Unit) => [(o, .inr (10, [.ref o_text, .int v_length, .ref o_now, .ref o_trial, .ref o_diary, .int v_acts, .int v_next, .ref o_kept, .ref o_isKept, .ref o_knownPlace, .ref o_knownLetter, .int v_known, .long v_seed, .int v_wide, .int v_bits, .int v_parity, .int v_stops, .int v_idle, .int v_frames, .int v_failed, .int v_failedAt, .int v_margin, .ref o_letters, .ref o_starts, .int v_bestFrames, .ref o_bestLetters, .int v_alike, .int v_fitting, .ref o_deep, .ref o_worth, .int v_readLevel, .int v_readMany, .ref o_readTicks, .int v_part, .int v_ten])), (o_now, .inl (cI, 361, .inl v_now))])) (cc := cX10_offBy) (maxL := 5) RX10 rfl (by decide +kernel) rfl rfl [(0, .ref o), (1, .int x1)] rfl ?_
  intro p e s m args below meth c A Qm C hret
  have H13 : ∀ (n13 : Nat) (x2 : Int32) (x3 : Int32) (x4 : Int32), wX10_offBy_13 fu v_now x1 Q n13 x2 x3 x4 → G p l e rmX10_offBy s m args below meth c D A 5 0 0 Qm [(o, .inr (10, [.ref o_text, .int v_length, .ref o_now, .ref o_trial, .ref o_diary, .int v_acts, .int v_next, .ref o_kept, .ref o_isKept, .ref o_knownPlace, .ref o_knownLetter, .int v_known, .long v_seed, .int v_wide, .int v_bits, .int v_parity, .int v_stops, .int v_idle, .int v_frames, .int v_failed, .int v_failedAt, .int v_margin, .ref o_letters, .ref o_starts, .int v_bestFrames, .ref o_bestLetters, .int v_alike, .int v_fitting, .ref o_deep, .ref o_worth, .int v_readLevel, .int v_readMany, .ref o_readTicks, .int v_part, .int v_ten])), (o_now, .inl (cI, 361, .inl v_now))] [(0, .ref o), (1, .int x1), (2, .int x2), (3, .int x3), (4, .int x4)] 13 [] := by
    intro n13
    induction n13 with
    | zero => intro x2 x3 x4 h; exact False.elim h
    | succ n13 ih13 =>
      intro x2 x3 x4 h
      unfold wX10_offBy_13 at h
      refine g_iload C 4 4 x4 dX10_offBy_13 rfl ?_
      refine g_iload_n C 3 3 x3 dX10_offBy_15 rfl rfl ?_
      refine g_icmp_ge C 38 dX10_offBy_16 (by decide) (fun c2 => ?_) (fun c2 => ?_)
      · have h := wp_t c2 h
        refine g_iload_n C 2 2 x2 dX10_offBy_38 rfl rfl ?_
        exact hret _ () _ _ _ dX10_offBy_39 h rfl
      have h := wp_f c2 h
      refine g_iload_n C 2 2 x2 dX10_offBy_19 rfl rfl ?_
      refine g_aload_n C 0 0 o dX10_offBy_20 rfl rfl ?_
      refine g_iload C 4 4 x4 dX10_offBy_21 rfl ?_
      refine g_callVi0 (As := [.int x4]) (rest := [.int x2]) C (c_X10_runOf l D cI cJ cZ cW o o_text o_now o_trial o_diary o_kept o_isKept o_knownPlace o_knownLetter o_letters o_starts o_bestLetters o_deep o_worth o_readTicks v_length v_acts v_next v_known v_seed v_wide v_bits v_parity v_stops v_idle v_frames v_failed v_failedAt v_margin v_bestFrames v_alike v_fitting v_readLevel v_readMany v_part v_ten v_now x4 fu _ h) 1 gd_X10_175 rfl rfl rfl (by decide +kernel) ⟨Nat.le_of_ble_eq_true rfl, Nat.le_of_ble_eq_true rfl⟩ ⟨Nat.le_of_ble_eq_true rfl, Nat.le_of_ble_eq_true rfl⟩ 10 0 rfl rfl rfl rfl (Nat.le_of_ble_eq_true rfl) [0, 1] rfl rfl dX10_offBy_23 (fun r3 h => ?_)
      refine g_iload_n C 1 1 x1 dX10_offBy_26 rfl rfl ?_
      refine g_callSi0 (As := [.int r3, .int x1]) (rest := [.int x2]) C (c_X10_offOf l D cI cJ cZ cW r3 x1 fu _ h) 2 gd_X10_178 rfl rfl rfl (by decide +kernel) ⟨Nat.le_of_ble_eq_true rfl, Nat.le_of_ble_eq_true rfl⟩ ⟨Nat.le_of_ble_eq_true rfl, Nat.le_of_ble_eq_true rfl⟩ rfl rfl (Nat.le_of_ble_eq_true rfl) [] rfl rfl dX10_offBy_27 (fun r4 h => ?_)
      refine g_iadd C dX10_offBy_30 ?_
      refine g_topi (fun y5 ey5 => ?_)
      have h := h y5 ey5
      refine g_istore_n C [(2, .int y5), (0, .ref o), (1, .int x1), (3, .int x3), (4, .int x4)] dX10_offBy_31 rfl (by decide) rfl ?_
      refine g_iinc C 4 x4 (x4 + (1 : Int32)) [(4, .int (x4 + (1 : Int32))), (2, .int y5), (0, .ref o), (1, .int x1), (3, .int x3)] dX10_offBy_32 rfl rfl (by decide) rfl ?_
      refine g_goto C 13 dX10_offBy_35 (by decide) ?_
      refine g_lv [2, 3, 1, 4, 0] rfl ?_
      exact ih13  y5 x3 (x4 + (1 : Int32)) h
  unfold wp_X10_offBy at h
  refine g_iconst C (0 : Int32) dX10_offBy_0 rfl ?_
  refine g_istore_n C [(2, .int (0 : Int32)), (0, .ref o), (1, .int x1)] dX10_offBy_1 rfl (by decide) rfl ?_
  refine g_aload_n C 0 1 o dX10_offBy_2 rfl rfl ?_
  refine g_get C 10 ix_10 0 _ rfl rfl 2 (by decide) wm_128 rfl (.ref o_now) rfl dX10_offBy_3 ?_
  refine g_callSi0 (As := [.ref o_now]) (rest := []) C (c_X10_edges l D cI cJ cZ cW o_now v_now fu _ h) 1 gd_X10_172 rfl rfl rfl (by decide +kernel) ⟨Nat.le_of_ble_eq_true rfl, Nat.le_of_ble_eq_true rfl⟩ ⟨Nat.le_of_ble_eq_true rfl, Nat.le_of_ble_eq_true rfl⟩ rfl rfl (Nat.le_of_ble_eq_true rfl) [1] rfl rfl dX10_offBy_6 (fun r1 h => ?_)
  refine g_istore_n C [(3, .int r1), (2, .int (0 : Int32)), (0, .ref o), (1, .int x1)] dX10_offBy_9 rfl (by decide) rfl ?_
  refine g_iconst C (1 : Int32) dX10_offBy_10 rfl ?_
  refine g_istore C [(4, .int (1 : Int32)), (3, .int r1), (2, .int (0 : Int32)), (0, .ref o), (1, .int x1)] dX10_offBy_11 (by decide) rfl ?_
  refine g_lv [3, 4, 2, 1, 0] rfl ?_
  exact H13 fu  (0 : Int32) r1 (1 : Int32) h
abbrev rmX10_width : Room := { frames := 2, cells := 0, slots := 0, locals := 48 }
def wX10_width_47 (fu : Nat) (v_now : (Nat → Int32)) (Q : Int32 → Prop) (K10 : Int32 → Int32 → Int32 → Prop) (x1 : Int32) (x3 : Int32) (k0 : Int32) : Prop := K10 x1 k0 (x3 + (1 : Int32))
def wX10_width_34 (fu : Nat) (v_now : (Nat → Int32)) (Q : Int32 → Prop) (K10 : Int32 → Int32 → Int32 → Prop) (x2 : Int32) (x3 : Int32) (x4 : Int32) (k0 : Int32) : Prop := (if x2 < x4 then wX10_width_47 fu v_now Q K10 k0 x3 x2 else wX10_width_47 fu v_now Q K10 k0 x3 x4)
def wX10_width_10 (fu : Nat) (v_now : (Nat → Int32)) (Q : Int32 → Prop) : Nat → Int32 → Int32 → Int32 → Prop
  | 0, _, _, _ => False
  | n0 + 1, x1, x2, x3 => (if (17 : Int32) ≤ x3 then Q x1 else wp_X10_offBy fu v_now x3 (fun (r3 : Int32) => (if x2 < r3 then wX10_width_34 fu v_now Q (wX10_width_10 fu v_now Q n0) x2 x3 r3 x1 else wX10_width_34 fu v_now Q (wX10_width_10 fu v_now Q n0) x2 x3 r3 x3)))
def wp_X10_width (fu : Nat) (v_now : (Nat → Int32)) (Q : Int32 → Prop) : Prop := wp_X10_offBy fu v_now (1 : Int32) (fun (r1 : Int32) => wX10_width_10 fu v_now Q fu (1 : Int32) r1 (2 : Int32))
set_option maxHeartbeats 4000000 in
set_option maxRecDepth 100000 in
theorem c_X10_width (l : Launch) (D : va_G) (cI cJ cZ cW : ClassId) (o o_text o_now o_trial o_diary o_kept o_isKept o_knownPlace o_knownLetter o_letters o_starts o_bestLetters o_deep o_worth o_readTicks : Nat) (v_length : Int32) (v_acts : Int32) (v_next : Int32) (v_known : Int32) (v_seed : Int64) (v_wide : Int32) (v_bits : Int32) (v_parity : Int32) (v_stops : Int32) (v_idle : Int32) (v_frames : Int32) (v_failed : Int32) (v_failedAt : Int32) (v_margin : Int32) (v_bestFrames : Int32) (v_alike : Int32) (v_fitting : Int32) (v_readLevel : Int32) (v_readMany : Int32) (v_part : Int32) (v_ten : Int32) (v_now : (Nat → Int32)) (fu : Nat) (Q : Int32 → Prop) (h : wp_X10_width fu v_now Q) : CtI l yX10_width wkX10_width rmX10_width D (tys4 cI cJ cZ cW) [.ref o] [(o, .inr (10, [.ref o_text, .int v_length, .ref o_now, .ref o_trial, .ref o_diary, .int v_acts, .int v_next, .ref o_kept, .ref o_isKept, .ref o_knownPlace, .ref o_knownLetter, .int v_known, .long v_seed, .int v_wide, .int v_bits, .int v_parity, .int v_stops, .int v_idle, .int v_frames, .int v_failed, .int v_failedAt, .int v_margin, .ref o_letters, .ref o_starts, .int v_bestFrames, .ref o_bestLetters, .int v_alike, .int v_fitting, .ref o_deep, .ref o_worth, .int v_readLevel, .int v_readMany, .ref o_readTicks, .int v_part, .int v_ten])), (o_now, .inl (cI, 361, .inl v_now))] (fun (r : Int32) (u : Unit) => Q r ) (fun (_ : Unit) => [(o, .inr (10, [.ref o_text, .int v_length, .ref o_now, .ref o_trial, .ref o_diary, .int v_acts, .int v_next, .ref o_kept, .ref o_isKept, .ref o_knownPlace, .ref o_knownLetter, .int v_known, .long v_seed, .int v_wide, .int v_bits, .int v_parity, .int v_stops, .int v_idle, .int v_frames, .int v_failed, .int v_failedAt, .int v_margin, .ref o_letters, .ref o_starts, .int v_bestFrames, .ref o_bestLetters, .int v_alike, .int v_fitting, .ref o_deep, .ref o_worth, .int v_readLevel, .int v_readMany, .ref o_readTicks, .int v_part, .int v_ten])), (o_now, .inl (cI, 361, .inl v_now))]) := by
  refine CtI.of (S := Unit) (y := yX10_width) (Tc := wkX10_width) (rm := rmX10_width) (D := D) (tys := tys4 cI cJ cZ cW) (av := [.ref o]) (wc := [(o, .inr (10, [.ref o_text, .int v_length, .ref o_now, .ref o_trial, .ref o_diary, .int v_acts, .int v_next, .ref o_kept, .ref o_isKept, .ref o_knownPlace, .ref o_knownLetter, .int v_known, .long v_seed, .int v_wide, .int v_bits, .int v_parity, .int v_stops, .int v_idle, .int v_frames, .int v_failed, .int v_failedAt, .int v_margin, .ref o_letters, .ref o_starts, .int v_bestFrames, .ref o_bestLetters, .int v_alike, .int v_fitting, .ref o_deep, .ref o_worth, .int v_readLevel, .int v_readMany, .ref o_readTicks, .int v_part, .int v_ten])), (o_now, .inl (cI, 361, .inl v_now))]) (post := (fun (r : Int32) (u : Unit) => Q r )) (w1 := (fun (_ : Unit) => [(o, .inr (10, [.ref o_text, .int v_length, .ref o_now, .ref o_trial, .ref o_diary, .int v_acts, .int v_next, .ref o_kept, .ref o_isKept, .ref o_knownPlace, .ref o_knownLetter, .int v_known, .long v_seed, .int v_wide, .int v_bits, .int v_parity, .int v_stops, .int v_idle, .int v_frames, .int v_failed, .int v_failedAt, .int v_margin, .ref o_letters, .ref o_starts, .int v_bestFrames, .ref o_bestLetters, .int v_alike, .int v_fitting, .ref o_deep, .ref o_worth, .int v_readLevel, .int v_readMany, .ref o_readTicks, .int v_part, .int v_ten])), (o_now, .inl (cI, 361, .inl v_now))])) (cc := cX10_width) (maxL := 5) RX10 rfl (by decide +kernel) rfl rfl [(0, .ref o)] rfl ?_
  intro p e s m args below meth c A Qm C hret
  have H10 : ∀ (n10 : Nat) (x1 : Int32) (x2 : Int32) (x3 : Int32), wX10_width_10 fu v_now Q n10 x1 x2 x3 → G p l e rmX10_width s m args below meth c D A 5 0 0 Qm [(o, .inr (10, [.ref o_text, .int v_length, .ref o_now, .ref o_trial, .ref o_diary, .int v_acts, .int v_next, .ref o_kept, .ref o_isKept, .ref o_knownPlace, .ref o_knownLetter, .int v_known, .long v_seed, .int v_wide, .int v_bits, .int v_parity, .int v_stops, .int v_idle, .int v_frames, .int v_failed, .int v_failedAt, .int v_margin, .ref o_letters, .ref o_starts, .int v_bestFrames, .ref o_bestLetters, .int v_alike, .int v_fitting, .ref o_deep, .ref o_worth, .int v_readLevel, .int v_readMany, .ref o_readTicks, .int v_part, .int v_ten])), (o_now, .inl (cI, 361, .inl v_now))] [(0, .ref o), (1, .int x1), (2, .int x2), (3, .int x3)] 10 [] := by
    intro n10
    induction n10 with
    | zero => intro x1 x2 x3 h; exact False.elim h
    | succ n10 ih10 =>
      have H47 : ∀ (x1 : Int32) (x3 : Int32) (k0 : Int32), wX10_width_47 fu v_now Q (wX10_width_10 fu v_now Q n10) x1 x3 k0 → G p l e rmX10_width s m args below meth c D A 5 0 0 Qm [(o, .inr (10, [.ref o_text, .int v_length, .ref o_now, .ref o_trial, .ref o_diary, .int v_acts, .int v_next, .ref o_kept, .ref o_isKept, .ref o_knownPlace, .ref o_knownLetter, .int v_known, .long v_seed, .int v_wide, .int v_bits, .int v_parity, .int v_stops, .int v_idle, .int v_frames, .int v_failed, .int v_failedAt, .int v_margin, .ref o_letters, .ref o_starts, .int v_bestFrames, .ref o_bestLetters, .int v_alike, .int v_fitting, .ref o_deep, .ref o_worth, .int v_readLevel, .int v_readMany, .ref o_readTicks, .int v_part, .int v_ten])), (o_now, .inl (cI, 361, .inl v_now))] [(0, .ref o), (1, .int x1), (3, .int x3)] 47 [.int k0] := by
        intro x1 x3 k0 h
        unfold wX10_width_47 at h
        refine g_istore_n C [(2, .int k0), (0, .ref o), (1, .int x1), (3, .int x3)] dX10_width_47 rfl (by decide) rfl ?_
        refine g_iinc C 3 x3 (x3 + (1 : Int32)) [(3, .int (x3 + (1 : Int32))), (2, .int k0), (0, .ref o), (1, .int x1)] dX10_width_48 rfl rfl (by decide) rfl ?_
        refine g_goto C 10 dX10_width_51 (by decide) ?_
        refine g_lv [2, 3, 1, 0] rfl ?_
        exact ih10  x1 k0 (x3 + (1 : Int32)) h
      have H34 : ∀ (x2 : Int32) (x3 : Int32) (x4 : Int32) (k0 : Int32), wX10_width_34 fu v_now Q (wX10_width_10 fu v_now Q n10) x2 x3 x4 k0 → G p l e rmX10_width s m args below meth c D A 5 0 0 Qm [(o, .inr (10, [.ref o_text, .int v_length, .ref o_now, .ref o_trial, .ref o_diary, .int v_acts, .int v_next, .ref o_kept, .ref o_isKept, .ref o_knownPlace, .ref o_knownLetter, .int v_known, .long v_seed, .int v_wide, .int v_bits, .int v_parity, .int v_stops, .int v_idle, .int v_frames, .int v_failed, .int v_failedAt, .int v_margin, .ref o_letters, .ref o_starts, .int v_bestFrames, .ref o_bestLetters, .int v_alike, .int v_fitting, .ref o_deep, .ref o_worth, .int v_readLevel, .int v_readMany, .ref o_readTicks, .int v_part, .int v_ten])), (o_now, .inl (cI, 361, .inl v_now))] [(0, .ref o), (2, .int x2), (3, .int x3), (4, .int x4)] 34 [.int k0] := by
        intro x2 x3 x4 k0 h
        unfold wX10_width_34 at h
        refine g_istore_n C [(1, .int k0), (0, .ref o), (2, .int x2), (3, .int x3), (4, .int x4)] dX10_width_34 rfl (by decide) rfl ?_
        refine g_iload C 4 4 x4 dX10_width_35 rfl ?_
        refine g_iload_n C 2 2 x2 dX10_width_37 rfl rfl ?_
        refine g_icmp_gt C 46 dX10_width_38 (by decide) (fun c5 => ?_) (fun c5 => ?_)
        · have h := wp_t c5 h
          refine g_iload_n C 2 2 x2 dX10_width_46 rfl rfl ?_
          refine g_lv [1, 0, 3] rfl ?_
          exact H47  k0 x3 x2 h
        have h := wp_f c5 h
        refine g_iload C 4 4 x4 dX10_width_41 rfl ?_
        refine g_goto C 47 dX10_width_43 (by decide) ?_
        refine g_lv [1, 0, 3] rfl ?_
        exact H47  k0 x3 x4 h
      intro x1 x2 x3 h
      unfold wX10_width_10 at h
      refine g_iload_n C 3 3 x3 dX10_width_10 rfl rfl ?_
      refine g_bipush C (17 : Int32) dX10_width_11 rfl ?_
      refine g_icmp_ge C 54 dX10_width_13 (by decide) (fun c2 => ?_) (fun c2 => ?_)
      · have h := wp_t c2 h
        refine g_iload_n C 1 1 x1 dX10_width_54 rfl rfl ?_
        exact hret _ () _ _ _ dX10_width_55 h rfl
      have h := wp_f c2 h
      refine g_aload_n C 0 0 o dX10_width_16 rfl rfl ?_
      refine g_iload_n C 3 3 x3 dX10_width_17 rfl rfl ?_
      refine g_callVi0 (As := [.int x3]) (rest := []) C (c_X10_offBy l D cI cJ cZ cW o o_text o_now o_trial o_diary o_kept o_isKept o_knownPlace o_knownLetter o_letters o_starts o_bestLetters o_deep o_worth o_readTicks v_length v_acts v_next v_known v_seed v_wide v_bits v_parity v_stops v_idle v_frames v_failed v_failedAt v_margin v_bestFrames v_alike v_fitting v_readLevel v_readMany v_part v_ten v_now x3 fu _ h) 1 gd_X10_182 rfl rfl rfl (by decide +kernel) ⟨Nat.le_of_ble_eq_true rfl, Nat.le_of_ble_eq_true rfl⟩ ⟨Nat.le_of_ble_eq_true rfl, Nat.le_of_ble_eq_true rfl⟩ 10 0 rfl rfl rfl rfl (Nat.le_of_ble_eq_true rfl) [0, 1] rfl rfl dX10_width_18 (fun r3 h => ?_)
      refine g_istore C [(4, .int r3), (0, .ref o), (1, .int x1), (2, .int x2), (3, .int x3)] dX10_width_21 (by decide) rfl ?_
      refine g_iload C 4 0 r3 dX10_width_23 rfl ?_
      refine g_iload_n C 2 3 x2 dX10_width_25 rfl rfl ?_
      refine g_icmp_gt C 33 dX10_width_26 (by decide) (fun c4 => ?_) (fun c4 => ?_)
      · have h := wp_t c4 h
        refine g_iload_n C 1 2 x1 dX10_width_33 rfl rfl ?_
        refine g_lv [1, 3, 4, 0] rfl ?_
        exact H34  x2 x3 r3 x1 h
      have h := wp_f c4 h
      refine g_iload_n C 3 4 x3 dX10_width_29 rfl rfl ?_
      refine g_goto C 34 dX10_width_30 (by decide) ?_
      refine g_lv [1, 3, 4, 0] rfl ?_
      exact H34  x2 x3 r3 x3 h
  unfold wp_X10_width at h
  refine g_iconst C (1 : Int32) dX10_width_0 rfl ?_
  refine g_istore_n C [(1, .int (1 : Int32)), (0, .ref o)] dX10_width_1 rfl (by decide) rfl ?_
  refine g_aload_n C 0 1 o dX10_width_2 rfl rfl ?_
  refine g_iconst C (1 : Int32) dX10_width_3 rfl ?_
  refine g_callVi0 (As := [.int (1 : Int32)]) (rest := []) C (c_X10_offBy l D cI cJ cZ cW o o_text o_now o_trial o_diary o_kept o_isKept o_knownPlace o_knownLetter o_letters o_starts o_bestLetters o_deep o_worth o_readTicks v_length v_acts v_next v_known v_seed v_wide v_bits v_parity v_stops v_idle v_frames v_failed v_failedAt v_margin v_bestFrames v_alike v_fitting v_readLevel v_readMany v_part v_ten v_now (1 : Int32) fu _ h) 1 gd_X10_182 rfl rfl rfl (by decide +kernel) ⟨Nat.le_of_ble_eq_true rfl, Nat.le_of_ble_eq_true rfl⟩ ⟨Nat.le_of_ble_eq_true rfl, Nat.le_of_ble_eq_true rfl⟩ 10 0 rfl rfl rfl rfl (Nat.le_of_ble_eq_true rfl) [0, 1] rfl rfl dX10_width_4 (fun r1 h => ?_)
  refine g_istore_n C [(2, .int r1), (1, .int (1 : Int32)), (0, .ref o)] dX10_width_7 rfl (by decide) rfl ?_
  refine g_iconst C (2 : Int32) dX10_width_8 rfl ?_
  refine g_istore_n C [(3, .int (2 : Int32)), (2, .int r1), (1, .int (1 : Int32)), (0, .ref o)] dX10_width_9 rfl (by decide) rfl ?_
  refine g_lv [3, 2, 1, 0] rfl ?_
  exact H10 fu  (1 : Int32) r1 (2 : Int32) h
abbrev rmX10_isSo : Room := { frames := 0, cells := 0, slots := 0, locals := 0 }
def wX10_isSo_74 (fu : Nat) (v_frames : Int32) (v_known : Int32) (v_knownLetter : (Nat → Int32)) (v_knownPlace : (Nat → Int32)) (v_letters : (Nat → Int32)) (x1 : Int32) (Q : Int32 → Prop) (K4 : Int32 → Int32 → Prop) (x3 : Int32) (k0 : Int32) : Prop := K4 k0 (x3 + (1 : Int32))
def wX10_isSo_73 (fu : Nat) (v_frames : Int32) (v_known : Int32) (v_knownLetter : (Nat → Int32)) (v_knownPlace : (Nat → Int32)) (v_letters : (Nat → Int32)) (x1 : Int32) (Q : Int32 → Prop) (K4 : Int32 → Int32 → Prop) (x3 : Int32) : Prop := wX10_isSo_74 fu v_frames v_known v_knownLetter v_knownPlace v_letters x1 Q K4 x3 (0 : Int32)
def wX10_isSo_69 (fu : Nat) (v_frames : Int32) (v_known : Int32) (v_knownLetter : (Nat → Int32)) (v_knownPlace : (Nat → Int32)) (v_letters : (Nat → Int32)) (x1 : Int32) (Q : Int32 → Prop) (K4 : Int32 → Int32 → Prop) (x3 : Int32) : Prop := wX10_isSo_74 fu v_frames v_known v_knownLetter v_knownPlace v_letters x1 Q K4 x3 (1 : Int32)
def wX10_isSo_50 (fu : Nat) (v_frames : Int32) (v_known : Int32) (v_knownLetter : (Nat → Int32)) (v_knownPlace : (Nat → Int32)) (v_letters : (Nat → Int32)) (x1 : Int32) (Q : Int32 → Prop) (K4 : Int32 → Int32 → Prop) (x2 : Int32) (x3 : Int32) (k0 : Int32) : Prop := (if x2 = 0 then wX10_isSo_73 fu v_frames v_known v_knownLetter v_knownPlace v_letters x1 Q K4 x3 else (if ((shr x1 x3) &&& (1 : Int32)) = 0 then wX10_isSo_69 fu v_frames v_known v_knownLetter v_knownPlace v_letters x1 Q K4 x3 else (if k0 = 0 then wX10_isSo_73 fu v_frames v_known v_knownLetter v_knownPlace v_letters x1 Q K4 x3 else wX10_isSo_69 fu v_frames v_known v_knownLetter v_knownPlace v_letters x1 Q K4 x3)))
def wX10_isSo_49 (fu : Nat) (v_frames : Int32) (v_known : Int32) (v_knownLetter : (Nat → Int32)) (v_knownPlace : (Nat → Int32)) (v_letters : (Nat → Int32)) (x1 : Int32) (Q : Int32 → Prop) (K4 : Int32 → Int32 → Prop) (x2 : Int32) (x3 : Int32) : Prop := wX10_isSo_50 fu v_frames v_known v_knownLetter v_knownPlace v_letters x1 Q K4 x2 x3 (0 : Int32)
def wX10_isSo_4 (fu : Nat) (v_frames : Int32) (v_known : Int32) (v_knownLetter : (Nat → Int32)) (v_knownPlace : (Nat → Int32)) (v_letters : (Nat → Int32)) (x1 : Int32) (Q : Int32 → Prop) : Nat → Int32 → Int32 → Prop
  | 0, _, _ => False
  | n0 + 1, x2, x3 => (if v_known ≤ x3 then ((x2 = 0 ∨ x2 = 1) ∧ Q x2) else (vp_in x3 5 ∧ (if v_frames ≤ (v_knownPlace (ix x3)) then wX10_isSo_49 fu v_frames v_known v_knownLetter v_knownPlace v_letters x1 Q (wX10_isSo_4 fu v_frames v_known v_knownLetter v_knownPlace v_letters x1 Q n0) x2 x3 else (vp_in x3 5 ∧ (vp_in (v_knownPlace (ix x3)) 64 ∧ (vp_in x3 5 ∧ (if (v_letters (ix (v_knownPlace (ix x3)))) = (v_knownLetter (ix x3)) then wX10_isSo_50 fu v_frames v_known v_knownLetter v_knownPlace v_letters x1 Q (wX10_isSo_4 fu v_frames v_known v_knownLetter v_knownPlace v_letters x1 Q n0) x2 x3 (1 : Int32) else wX10_isSo_49 fu v_frames v_known v_knownLetter v_knownPlace v_letters x1 Q (wX10_isSo_4 fu v_frames v_known v_knownLetter v_knownPlace v_letters x1 Q n0) x2 x3)))))))
def wp_X10_isSo (fu : Nat) (v_frames : Int32) (v_known : Int32) (v_knownLetter : (Nat → Int32)) (v_knownPlace : (Nat → Int32)) (v_letters : (Nat → Int32)) (x1 : Int32) (Q : Int32 → Prop) : Prop := wX10_isSo_4 fu v_frames v_known v_knownLetter v_knownPlace v_letters x1 Q fu (1 : Int32) (0 : Int32)
set_option maxHeartbeats 4000000 in
set_option maxRecDepth 100000 in
theorem c_X10_isSo (l : Launch) (D : va_G) (cI cJ cZ cW : ClassId) (o o_text o_now o_trial o_diary o_kept o_isKept o_knownPlace o_knownLetter o_letters o_starts o_bestLetters o_deep o_worth o_readTicks : Nat) (v_length : Int32) (v_acts : Int32) (v_next : Int32) (v_known : Int32) (v_seed : Int64) (v_wide : Int32) (v_bits : Int32) (v_parity : Int32) (v_stops : Int32) (v_idle : Int32) (v_frames : Int32) (v_failed : Int32) (v_failedAt : Int32) (v_margin : Int32) (v_bestFrames : Int32) (v_alike : Int32) (v_fitting : Int32) (v_readLevel : Int32) (v_readMany : Int32) (v_part : Int32) (v_ten : Int32) (v_knownLetter : (Nat → Int32)) (v_knownPlace : (Nat → Int32)) (v_letters : (Nat → Int32)) (x1 : Int32) (fu : Nat) (Q : Int32 → Prop) (h : wp_X10_isSo fu v_frames v_known v_knownLetter v_knownPlace v_letters x1 Q) : CtI l yX10_isSo wkX10_isSo rmX10_isSo D (tys4 cI cJ cZ cW) [.ref o, .int x1] [(o, .inr (10, [.ref o_text, .int v_length, .ref o_now, .ref o_trial, .ref o_diary, .int v_acts, .int v_next, .ref o_kept, .ref o_isKept, .ref o_knownPlace, .ref o_knownLetter, .int v_known, .long v_seed, .int v_wide, .int v_bits, .int v_parity, .int v_stops, .int v_idle, .int v_frames, .int v_failed, .int v_failedAt, .int v_margin, .ref o_letters, .ref o_starts, .int v_bestFrames, .ref o_bestLetters, .int v_alike, .int v_fitting, .ref o_deep, .ref o_worth, .int v_readLevel, .int v_readMany, .ref o_readTicks, .int v_part, .int v_ten])), (o_knownLetter, .inl (cI, 5, .inl v_knownLetter)), (o_knownPlace, .inl (cI, 5, .inl v_knownPlace)), (o_letters, .inl (cI, 64, .inl v_letters))] (fun (r : Int32) (u : Unit) => (r = 0 ∨ r = 1) ∧ (fun (r : Int32) (u : Unit) => Q r ) r u) (fun (_ : Unit) => [(o, .inr (10, [.ref o_text, .int v_length, .ref o_now, .ref o_trial, .ref o_diary, .int v_acts, .int v_next, .ref o_kept, .ref o_isKept, .ref o_knownPlace, .ref o_knownLetter, .int v_known, .long v_seed, .int v_wide, .int v_bits, .int v_parity, .int v_stops, .int v_idle, .int v_frames, .int v_failed, .int v_failedAt, .int v_margin, .ref o_letters, .ref o_starts, .int v_bestFrames, .ref o_bestLetters, .int v_alike, .int v_fitting, .ref o_deep, .ref o_worth, .int v_readLevel, .int v_readMany, .ref o_readTicks, .int v_part, .int v_ten])), (o_knownLetter, .inl (cI, 5, .inl v_knownLetter)), (o_knownPlace, .inl (cI, 5, .inl v_knownPlace)), (o_letters, .inl (cI, 64, .inl v_letters))]) := by
  refine CtI.ofZ (S := Unit) (y := yX10_isSo) (Tc := wkX10_isSo) (rm := rmX10_isSo) (D := D) (tys := tys4 cI cJ cZ cW) (av := [.ref o, .int x1]) (wc := [(o, .inr (10, [.ref o_text, .int v_length, .ref o_now, .ref o_trial, .ref o_diary, .int v_acts, .int v_next, .ref o_kept, .ref o_isKept, .ref o_knownPlace, .ref o_knownLetter, .int v_known, .long v_seed, .int v_wide, .int v_bits, .int v_parity, .int v_stops, .int v_idle, .int v_frames, .int v_failed, .int v_failedAt, .int v_margin, .ref o_letters, .ref o_starts, .int v_bestFrames, .ref o_bestLetters, .int v_alike, .int v_fitting, .ref o_deep, .ref o_worth, .int v_readLevel, .int v_readMany, .ref o_readTicks, .int v_part, .int v_ten])), (o_knownLetter, .inl (cI, 5, .inl v_knownLetter)), (o_knownPlace, .inl (cI, 5, .inl v_knownPlace)), (o_letters, .inl (cI, 64, .inl v_letters))]) (post := (fun (r : Int32) (u : Unit) => Q r )) (w1 := (fun (_ : Unit) => [(o, .inr (10, [.ref o_text, .int v_length, .ref o_now, .ref o_trial, .ref o_diary, .int v_acts, .int v_next, .ref o_kept, .ref o_isKept, .ref o_knownPlace, .ref o_knownLetter, .int v_known, .long v_seed, .int v_wide, .int v_bits, .int v_parity, .int v_stops, .int v_idle, .int v_frames, .int v_failed, .int v_failedAt, .int v_margin, .ref o_letters, .ref o_starts, .int v_bestFrames, .ref o_bestLetters, .int v_alike, .int v_fitting, .ref o_deep, .ref o_worth, .int v_readLevel, .int v_readMany, .ref o_readTicks, .int v_part, .int v_ten])), (o_knownLetter, .inl (cI, 5, .inl v_knownLetter)), (o_knownPlace, .inl (cI, 5, .inl v_knownPlace)), (o_letters, .inl (cI, 64, .inl v_letters))])) (cc := cX10_isSo) (maxL := 5) RX10 rfl (by decide +kernel) rfl rfl [(0, .ref o), (1, .int x1)] rfl ?_
  intro p e s m args below meth c A Qm C hret
  have H4 : ∀ (n4 : Nat) (x2 : Int32) (x3 : Int32), wX10_isSo_4 fu v_frames v_known v_knownLetter v_knownPlace v_letters x1 Q n4 x2 x3 → G p l e rmX10_isSo s m args below meth c D A 5 0 0 Qm [(o, .inr (10, [.ref o_text, .int v_length, .ref o_now, .ref o_trial, .ref o_diary, .int v_acts, .int v_next, .ref o_kept, .ref o_isKept, .ref o_knownPlace, .ref o_knownLetter, .int v_known, .long v_seed, .int v_wide, .int v_bits, .int v_parity, .int v_stops, .int v_idle, .int v_frames, .int v_failed, .int v_failedAt, .int v_margin, .ref o_letters, .ref o_starts, .int v_bestFrames, .ref o_bestLetters, .int v_alike, .int v_fitting, .ref o_deep, .ref o_worth, .int v_readLevel, .int v_readMany, .ref o_readTicks, .int v_part, .int v_ten])), (o_knownLetter, .inl (cI, 5, .inl v_knownLetter)), (o_knownPlace, .inl (cI, 5, .inl v_knownPlace)), (o_letters, .inl (cI, 64, .inl v_letters))] [(0, .ref o), (1, .int x1), (2, .int x2), (3, .int x3)] 4 [] := by
    intro n4
    induction n4 with
    | zero => intro x2 x3 h; exact False.elim h
    | succ n4 ih4 =>
      have H74 : ∀ (x3 : Int32) (k0 : Int32), wX10_isSo_74 fu v_frames v_known v_knownLetter v_knownPlace v_letters x1 Q (wX10_isSo_4 fu v_frames v_known v_knownLetter v_knownPlace v_letters x1 Q n4) x3 k0 → G p l e rmX10_isSo s m args below meth c D A 5 0 0 Qm [(o, .inr (10, [.ref o_text, .int v_length, .ref o_now, .ref o_trial, .ref o_diary, .int v_acts, .int v_next, .ref o_kept, .ref o_isKept, .ref o_knownPlace, .ref o_knownLetter, .int v_known, .long v_seed, .int v_wide, .int v_bits, .int v_parity, .int v_stops, .int v_idle, .int v_frames, .int v_failed, .int v_failedAt, .int v_margin, .ref o_letters, .ref o_starts, .int v_bestFrames, .ref o_bestLetters, .int v_alike, .int v_fitting, .ref o_deep, .ref o_worth, .int v_readLevel, .int v_readMany, .ref o_readTicks, .int v_part, .int v_ten])), (o_knownLetter, .inl (cI, 5, .inl v_knownLetter)), (o_knownPlace, .inl (cI, 5, .inl v_knownPlace)), (o_letters, .inl (cI, 64, .inl v_letters))] [(0, .ref o), (1, .int x1), (3, .int x3)] 74 [.int k0] := by
        intro x3 k0 h
        unfold wX10_isSo_74 at h
        refine g_istore_n C [(2, .int k0), (0, .ref o), (1, .int x1), (3, .int x3)] dX10_isSo_74 rfl (by decide) rfl ?_
        refine g_iinc C 3 x3 (x3 + (1 : Int32)) [(3, .int (x3 + (1 : Int32))), (2, .int k0), (0, .ref o), (1, .int x1)] dX10_isSo_75 rfl rfl (by decide) rfl ?_
        refine g_goto C 4 dX10_isSo_78 (by decide) ?_
        refine g_lv [2, 3, 1, 0] rfl ?_
        exact ih4  k0 (x3 + (1 : Int32)) h
      have H73 : ∀ (x3 : Int32), wX10_isSo_73 fu v_frames v_known v_knownLetter v_knownPlace v_letters x1 Q (wX10_isSo_4 fu v_frames v_known v_knownLetter v_knownPlace v_letters x1 Q n4) x3 → G p l e rmX10_isSo s m args below meth c D A 5 0 0 Qm [(o, .inr (10, [.ref o_text, .int v_length, .ref o_now, .ref o_trial, .ref o_diary, .int v_acts, .int v_next, .ref o_kept, .ref o_isKept, .ref o_knownPlace, .ref o_knownLetter, .int v_known, .long v_seed, .int v_wide, .int v_bits, .int v_parity, .int v_stops, .int v_idle, .int v_frames, .int v_failed, .int v_failedAt, .int v_margin, .ref o_letters, .ref o_starts, .int v_bestFrames, .ref o_bestLetters, .int v_alike, .int v_fitting, .ref o_deep, .ref o_worth, .int v_readLevel, .int v_readMany, .ref o_readTicks, .int v_part, .int v_ten])), (o_knownLetter, .inl (cI, 5, .inl v_knownLetter)), (o_knownPlace, .inl (cI, 5, .inl v_knownPlace)), (o_letters, .inl (cI, 64, .inl v_letters))] [(0, .ref o), (1, .int x1), (3, .int x3)] 73 [] := by
        intro x3 h
        unfold wX10_isSo_73 at h
        refine g_iconst C (0 : Int32) dX10_isSo_73 rfl ?_
        refine g_lv [0, 1, 2] rfl ?_
        exact H74  x3 (0 : Int32) h
      have H69 : ∀ (x3 : Int32), wX10_isSo_69 fu v_frames v_known v_knownLetter v_knownPlace v_letters x1 Q (wX10_isSo_4 fu v_frames v_known v_knownLetter v_knownPlace v_letters x1 Q n4) x3 → G p l e rmX10_isSo s m args below meth c D A 5 0 0 Qm [(o, .inr (10, [.ref o_text, .int v_length, .ref o_now, .ref o_trial, .ref o_diary, .int v_acts, .int v_next, .ref o_kept, .ref o_isKept, .ref o_knownPlace, .ref o_knownLetter, .int v_known, .long v_seed, .int v_wide, .int v_bits, .int v_parity, .int v_stops, .int v_idle, .int v_frames, .int v_failed, .int v_failedAt, .int v_margin, .ref o_letters, .ref o_starts, .int v_bestFrames, .ref o_bestLetters, .int v_alike, .int v_fitting, .ref o_deep, .ref o_worth, .int v_readLevel, .int v_readMany, .ref o_readTicks, .int v_part, .int v_ten])), (o_knownLetter, .inl (cI, 5, .inl v_knownLetter)), (o_knownPlace, .inl (cI, 5, .inl v_knownPlace)), (o_letters, .inl (cI, 64, .inl v_letters))] [(0, .ref o), (1, .int x1), (3, .int x3)] 69 [] := by
        intro x3 h
        unfold wX10_isSo_69 at h
        refine g_iconst C (1 : Int32) dX10_isSo_69 rfl ?_
        refine g_goto C 74 dX10_isSo_70 (by decide) ?_
        refine g_lv [0, 1, 2] rfl ?_
        exact H74  x3 (1 : Int32) h
      have H50 : ∀ (x2 : Int32) (x3 : Int32) (k0 : Int32), wX10_isSo_50 fu v_frames v_known v_knownLetter v_knownPlace v_letters x1 Q (wX10_isSo_4 fu v_frames v_known v_knownLetter v_knownPlace v_letters x1 Q n4) x2 x3 k0 → G p l e rmX10_isSo s m args below meth c D A 5 0 0 Qm [(o, .inr (10, [.ref o_text, .int v_length, .ref o_now, .ref o_trial, .ref o_diary, .int v_acts, .int v_next, .ref o_kept, .ref o_isKept, .ref o_knownPlace, .ref o_knownLetter, .int v_known, .long v_seed, .int v_wide, .int v_bits, .int v_parity, .int v_stops, .int v_idle, .int v_frames, .int v_failed, .int v_failedAt, .int v_margin, .ref o_letters, .ref o_starts, .int v_bestFrames, .ref o_bestLetters, .int v_alike, .int v_fitting, .ref o_deep, .ref o_worth, .int v_readLevel, .int v_readMany, .ref o_readTicks, .int v_part, .int v_ten])), (o_knownLetter, .inl (cI, 5, .inl v_knownLetter)), (o_knownPlace, .inl (cI, 5, .inl v_knownPlace)), (o_letters, .inl (cI, 64, .inl v_letters))] [(0, .ref o), (1, .int x1), (2, .int x2), (3, .int x3)] 50 [.int k0] := by
        intro x2 x3 k0 h
        unfold wX10_isSo_50 at h
        refine g_istore C [(4, .int k0), (0, .ref o), (1, .int x1), (2, .int x2), (3, .int x3)] dX10_isSo_50 (by decide) rfl ?_
        refine g_iload_n C 2 3 x2 dX10_isSo_52 rfl rfl ?_
        refine g_if_eq C 73 dX10_isSo_53 (by decide) (fun c8 => ?_) (fun c8 => ?_)
        · have h := wp_t c8 h
          refine g_lv [1, 2, 4] rfl ?_
          exact H73  x3 h
        have h := wp_f c8 h
        refine g_iload_n C 1 2 x1 dX10_isSo_56 rfl rfl ?_
        refine g_iload_n C 3 4 x3 dX10_isSo_57 rfl rfl ?_
        refine g_ishr C dX10_isSo_58 ?_
        refine g_iconst C (1 : Int32) dX10_isSo_59 rfl ?_
        refine g_iand C dX10_isSo_60 ?_
        refine g_if_eq C 69 dX10_isSo_61 (by decide) (fun c9 => ?_) (fun c9 => ?_)
        · have h := wp_t c9 h
          refine g_lv [1, 2, 4] rfl ?_
          exact H69  x3 h
        have h := wp_f c9 h
        refine g_iload C 4 0 k0 dX10_isSo_64 rfl ?_
        refine g_if_eq C 73 dX10_isSo_66 (by decide) (fun c10 => ?_) (fun c10 => ?_)
        · have h := wp_t c10 h
          refine g_lv [1, 2, 4] rfl ?_
          exact H73  x3 h
        have h := wp_f c10 h
        refine g_lv [1, 2, 4] rfl ?_
        exact H69  x3 h
      have H49 : ∀ (x2 : Int32) (x3 : Int32), wX10_isSo_49 fu v_frames v_known v_knownLetter v_knownPlace v_letters x1 Q (wX10_isSo_4 fu v_frames v_known v_knownLetter v_knownPlace v_letters x1 Q n4) x2 x3 → G p l e rmX10_isSo s m args below meth c D A 5 0 0 Qm [(o, .inr (10, [.ref o_text, .int v_length, .ref o_now, .ref o_trial, .ref o_diary, .int v_acts, .int v_next, .ref o_kept, .ref o_isKept, .ref o_knownPlace, .ref o_knownLetter, .int v_known, .long v_seed, .int v_wide, .int v_bits, .int v_parity, .int v_stops, .int v_idle, .int v_frames, .int v_failed, .int v_failedAt, .int v_margin, .ref o_letters, .ref o_starts, .int v_bestFrames, .ref o_bestLetters, .int v_alike, .int v_fitting, .ref o_deep, .ref o_worth, .int v_readLevel, .int v_readMany, .ref o_readTicks, .int v_part, .int v_ten])), (o_knownLetter, .inl (cI, 5, .inl v_knownLetter)), (o_knownPlace, .inl (cI, 5, .inl v_knownPlace)), (o_letters, .inl (cI, 64, .inl v_letters))] [(0, .ref o), (1, .int x1), (2, .int x2), (3, .int x3)] 49 [] := by
        intro x2 x3 h
        unfold wX10_isSo_49 at h
        refine g_iconst C (0 : Int32) dX10_isSo_49 rfl ?_
        refine g_lv [0, 1, 2, 3] rfl ?_
        exact H50  x2 x3 (0 : Int32) h
      intro x2 x3 h
      unfold wX10_isSo_4 at h
      refine g_iload_n C 3 3 x3 dX10_isSo_4 rfl rfl ?_
      refine g_aload_n C 0 0 o dX10_isSo_5 rfl rfl ?_
      refine g_get C 10 ix_10 0 _ rfl rfl 11 (by decide) wm_381 rfl (.int v_known) rfl dX10_isSo_6 ?_
      refine g_icmp_ge C 81 dX10_isSo_9 (by decide) (fun c1 => ?_) (fun c1 => ?_)
      · have h := wp_t c1 h
        refine g_iload_n C 2 2 x2 dX10_isSo_81 rfl rfl ?_
        exact hret _ () _ _ _ h.1 dX10_isSo_82 h.2 rfl
      have h := wp_f c1 h
      refine g_aload_n C 0 0 o dX10_isSo_12 rfl rfl ?_
      refine g_get C 10 ix_10 0 _ rfl rfl 9 (by decide) wm_133 rfl (.ref o_knownPlace) rfl dX10_isSo_13 ?_
      refine g_iload_n C 3 3 x3 dX10_isSo_16 rfl rfl ?_
      obtain ⟨hi2, h⟩ := h
      refine g_iald C 2 0 cI 5 v_knownPlace rfl rfl hi2 dX10_isSo_17 ?_
      refine g_aload_n C 0 0 o dX10_isSo_18 rfl rfl ?_
      refine g_get C 10 ix_10 0 _ rfl rfl 18 (by decide) wm_396 rfl (.int v_frames) rfl dX10_isSo_19 ?_
      refine g_icmp_ge C 49 dX10_isSo_22 (by decide) (fun c3 => ?_) (fun c3 => ?_)
      · have h := wp_t c3 h
        refine g_lv [0, 1, 2, 3] rfl ?_
        exact H49  x2 x3 h
      have h := wp_f c3 h
      refine g_aload_n C 0 0 o dX10_isSo_25 rfl rfl ?_
      refine g_get C 10 ix_10 0 _ rfl rfl 22 (by decide) wm_135 rfl (.ref o_letters) rfl dX10_isSo_26 ?_
      refine g_aload_n C 0 0 o dX10_isSo_29 rfl rfl ?_
      refine g_get C 10 ix_10 0 _ rfl rfl 9 (by decide) wm_133 rfl (.ref o_knownPlace) rfl dX10_isSo_30 ?_
      refine g_iload_n C 3 3 x3 dX10_isSo_33 rfl rfl ?_
      obtain ⟨hi4, h⟩ := h
      refine g_iald C 2 0 cI 5 v_knownPlace rfl rfl hi4 dX10_isSo_34 ?_
      obtain ⟨hi5, h⟩ := h
      refine g_iald C 3 0 cI 64 v_letters rfl rfl hi5 dX10_isSo_35 ?_
      refine g_aload_n C 0 0 o dX10_isSo_36 rfl rfl ?_
      refine g_get C 10 ix_10 0 _ rfl rfl 10 (by decide) wm_134 rfl (.ref o_knownLetter) rfl dX10_isSo_37 ?_
      refine g_iload_n C 3 3 x3 dX10_isSo_40 rfl rfl ?_
      obtain ⟨hi6, h⟩ := h
      refine g_iald C 1 0 cI 5 v_knownLetter rfl rfl hi6 dX10_isSo_41 ?_
      refine g_icmp_ne C 49 dX10_isSo_42 (by decide) (fun c7 => ?_) (fun c7 => ?_)
      · have h := wp_f c7 h
        refine g_lv [0, 1, 2, 3] rfl ?_
        exact H49  x2 x3 h
      have h := wp_t c7 h
      refine g_iconst C (1 : Int32) dX10_isSo_45 rfl ?_
      refine g_goto C 50 dX10_isSo_46 (by decide) ?_
      refine g_lv [0, 1, 2, 3] rfl ?_
      exact H50  x2 x3 (1 : Int32) h
  unfold wp_X10_isSo at h
  refine g_iconst C (1 : Int32) dX10_isSo_0 rfl ?_
  refine g_istore_n C [(2, .int (1 : Int32)), (0, .ref o), (1, .int x1)] dX10_isSo_1 rfl (by decide) rfl ?_
  refine g_iconst C (0 : Int32) dX10_isSo_2 rfl ?_
  refine g_istore_n C [(3, .int (0 : Int32)), (2, .int (1 : Int32)), (0, .ref o), (1, .int x1)] dX10_isSo_3 rfl (by decide) rfl ?_
  refine g_lv [2, 3, 1, 0] rfl ?_
  exact H4 fu  (1 : Int32) (0 : Int32) h
abbrev rmX10_left : Room := { frames := 4, cells := 0, slots := 0, locals := 97 }
def wX10_left_75 (fu : Nat) (v_known : Int32) (v_deep : (Nat → Int32)) (v_knownLetter : (Nat → Int32)) (v_knownPlace : (Nat → Int32)) (v_now : (Nat → Int32)) (x1 : Int32) (x2 : Int32) (Q : Int32 → Int32 → Int32 → Int32 → Int32 → Int32 → Int32 → Int32 → Int32 → Int32 → (Nat → Int32) → (Nat → Int32) → Prop) (K9 : Int32 → Int32 → Int32 → Int32 → Int32 → Int32 → Int32 → Int32 → Int32 → Int32 → Int32 → Int32 → (Nat → Int32) → (Nat → Int32) → Prop) (x3 : Int32) (x4 : Int32) (x5 : Int32) (v_bits : Int32) (v_failed : Int32) (v_failedAt : Int32) (v_frames : Int32) (v_idle : Int32) (v_margin : Int32) (v_parity : Int32) (v_stops : Int32) (v_wide : Int32) (v_letters : (Nat → Int32)) (v_starts : (Nat → Int32)) : Prop := K9 x3 x4 (x5 + (1 : Int32)) v_bits v_failed v_failedAt v_frames v_idle v_margin v_parity v_stops v_wide v_letters v_starts
def wX10_left_70 (fu : Nat) (v_known : Int32) (v_deep : (Nat → Int32)) (v_knownLetter : (Nat → Int32)) (v_knownPlace : (Nat → Int32)) (v_now : (Nat → Int32)) (x1 : Int32) (x2 : Int32) (Q : Int32 → Int32 → Int32 → Int32 → Int32 → Int32 → Int32 → Int32 → Int32 → Int32 → (Nat → Int32) → (Nat → Int32) → Prop) (K9 : Int32 → Int32 → Int32 → Int32 → Int32 → Int32 → Int32 → Int32 → Int32 → Int32 → Int32 → Int32 → (Nat → Int32) → (Nat → Int32) → Prop) (x3 : Int32) (x5 : Int32) (k0 : Int32) (v_bits : Int32) (v_failed : Int32) (v_failedAt : Int32) (v_frames : Int32) (v_idle : Int32) (v_margin : Int32) (v_parity : Int32) (v_stops : Int32) (v_wide : Int32) (v_letters : (Nat → Int32)) (v_starts : (Nat → Int32)) : Prop := wX10_left_75 fu v_known v_deep v_knownLetter v_knownPlace v_now x1 x2 Q K9 (x3 + (1 : Int32)) k0 x5 v_bits v_failed v_failedAt v_frames v_idle v_margin v_parity v_stops v_wide v_letters v_starts
def wX10_left_9 (fu : Nat) (v_known : Int32) (v_deep : (Nat → Int32)) (v_knownLetter : (Nat → Int32)) (v_knownPlace : (Nat → Int32)) (v_now : (Nat → Int32)) (x1 : Int32) (x2 : Int32) (Q : Int32 → Int32 → Int32 → Int32 → Int32 → Int32 → Int32 → Int32 → Int32 → Int32 → (Nat → Int32) → (Nat → Int32) → Prop) : Nat → Int32 → Int32 → Int32 → Int32 → Int32 → Int32 → Int32 → Int32 → Int32 → Int32 → Int32 → Int32 → (Nat → Int32) → (Nat → Int32) → Prop
  | 0, _, _, _, _, _, _, _, _, _, _, _, _, _, _ => False
  | n0 + 1, x3, x4, x5, v_bits, v_failed, v_failedAt, v_frames, v_idle, v_margin, v_parity, v_stops, v_wide, v_letters, v_starts => (if (768 : Int32) ≤ x5 then (if x2 = 0 then Q x3 v_bits v_failed v_failedAt v_frames v_idle v_margin v_parity v_stops v_wide v_letters v_starts else Q x4 v_bits v_failed v_failedAt v_frames v_idle v_margin v_parity v_stops v_wide v_letters v_starts) else wp_X10_codeOf fu x5 (fun (r3 : Int32) => wp_X10_layCode fu r3 v_bits v_idle v_parity v_stops v_wide (fun (r9 : Int32) (z4 : Int32) (z5 : Int32) (z6 : Int32) (z7 : Int32) (z8 : Int32) => wp_X10_read fu z4 z5 z6 z7 z8 v_deep v_now v_failed v_failedAt v_frames v_margin v_letters v_starts (fun (z10 : Int32) (z11 : Int32) (z12 : Int32) (z13 : Int32) (z14 : (Nat → Int32)) (z15 : (Nat → Int32)) => (if r9 = 0 then wX10_left_75 fu v_known v_deep v_knownLetter v_knownPlace v_now x1 x2 Q (wX10_left_9 fu v_known v_deep v_knownLetter v_knownPlace v_now x1 x2 Q n0) x3 x4 x5 z4 z10 z11 z12 z5 z13 z6 z7 z8 z14 z15 else wp_X10_fits fu z10 z12 (fun (r17 : Int32) => (if r17 = 0 then wX10_left_75 fu v_known v_deep v_knownLetter v_knownPlace v_now x1 x2 Q (wX10_left_9 fu v_known v_deep v_knownLetter v_knownPlace v_now x1 x2 Q n0) x3 x4 x5 z4 z10 z11 z12 z5 z13 z6 z7 z8 z14 z15 else wp_X10_isSo fu z12 v_known v_knownLetter v_knownPlace z14 x1 (fun (r19 : Int32) => (if r19 = 0 then wX10_left_75 fu v_known v_deep v_knownLetter v_knownPlace v_now x1 x2 Q (wX10_left_9 fu v_known v_deep v_knownLetter v_knownPlace v_now x1 x2 Q n0) x3 x4 x5 z4 z10 z11 z12 z5 z13 z6 z7 z8 z14 z15 else (if x3 = 0 then wp_X10_codeOf fu x5 (fun (r22 : Int32) => wX10_left_70 fu v_known v_deep v_knownLetter v_knownPlace v_now x1 x2 Q (wX10_left_9 fu v_known v_deep v_knownLetter v_knownPlace v_now x1 x2 Q n0) x3 x5 r22 z4 z10 z11 z12 z5 z13 z6 z7 z8 z14 z15) else wX10_left_70 fu v_known v_deep v_knownLetter v_knownPlace v_now x1 x2 Q (wX10_left_9 fu v_known v_deep v_knownLetter v_knownPlace v_now x1 x2 Q n0) x3 x5 x4 z4 z10 z11 z12 z5 z13 z6 z7 z8 z14 z15))))))))))
def wp_X10_left (fu : Nat) (v_known : Int32) (v_deep : (Nat → Int32)) (v_knownLetter : (Nat → Int32)) (v_knownPlace : (Nat → Int32)) (v_now : (Nat → Int32)) (x1 : Int32) (x2 : Int32) (v_bits : Int32) (v_failed : Int32) (v_failedAt : Int32) (v_frames : Int32) (v_idle : Int32) (v_margin : Int32) (v_parity : Int32) (v_stops : Int32) (v_wide : Int32) (v_letters : (Nat → Int32)) (v_starts : (Nat → Int32)) (Q : Int32 → Int32 → Int32 → Int32 → Int32 → Int32 → Int32 → Int32 → Int32 → Int32 → (Nat → Int32) → (Nat → Int32) → Prop) : Prop := wX10_left_9 fu v_known v_deep v_knownLetter v_knownPlace v_now x1 x2 Q fu (0 : Int32) (-9 : Int32) (0 : Int32) v_bits v_failed v_failedAt v_frames v_idle v_margin v_parity v_stops v_wide v_letters v_starts
set_option maxHeartbeats 4000000 in
set_option maxRecDepth 100000 in
theorem c_X10_left (l : Launch) (D : va_G) (cI cJ cZ cW : ClassId) (o o_text o_now o_trial o_diary o_kept o_isKept o_knownPlace o_knownLetter o_letters o_starts o_bestLetters o_deep o_worth o_readTicks : Nat) (v_length : Int32) (v_acts : Int32) (v_next : Int32) (v_known : Int32) (v_seed : Int64) (v_wide : Int32) (v_bits : Int32) (v_parity : Int32) (v_stops : Int32) (v_idle : Int32) (v_frames : Int32) (v_failed : Int32) (v_failedAt : Int32) (v_margin : Int32) (v_bestFrames : Int32) (v_alike : Int32) (v_fitting : Int32) (v_readLevel : Int32) (v_readMany : Int32) (v_part : Int32) (v_ten : Int32) (v_deep : (Nat → Int32)) (v_knownLetter : (Nat → Int32)) (v_knownPlace : (Nat → Int32)) (v_letters : (Nat → Int32)) (v_now : (Nat → Int32)) (v_starts : (Nat → Int32)) (x1 : Int32) (x2 : Int32) (fu : Nat) (Q : Int32 → Int32 → Int32 → Int32 → Int32 → Int32 → Int32 → Int32 → Int32 → Int32 → (Nat → Int32) → (Nat → Int32) → Prop) (h : wp_X10_left fu v_known v_deep v_knownLetter v_knownPlace v_now x1 x2 v_bits v_failed v_failedAt v_frames v_idle v_margin v_parity v_stops v_wide v_letters v_starts Q) : CtI l yX10_left wkX10_left rmX10_left D (tys4 cI cJ cZ cW) [.ref o, .int x1, .int x2] [(o, .inr (10, [.ref o_text, .int v_length, .ref o_now, .ref o_trial, .ref o_diary, .int v_acts, .int v_next, .ref o_kept, .ref o_isKept, .ref o_knownPlace, .ref o_knownLetter, .int v_known, .long v_seed, .int v_wide, .int v_bits, .int v_parity, .int v_stops, .int v_idle, .int v_frames, .int v_failed, .int v_failedAt, .int v_margin, .ref o_letters, .ref o_starts, .int v_bestFrames, .ref o_bestLetters, .int v_alike, .int v_fitting, .ref o_deep, .ref o_worth, .int v_readLevel, .int v_readMany, .ref o_readTicks, .int v_part, .int v_ten])), (o_deep, .inl (cI, 360, .inl v_deep)), (o_knownLetter, .inl (cI, 5, .inl v_knownLetter)), (o_knownPlace, .inl (cI, 5, .inl v_knownPlace)), (o_letters, .inl (cI, 64, .inl v_letters)), (o_now, .inl (cI, 361, .inl v_now)), (o_starts, .inl (cI, 64, .inl v_starts))] (fun (r : Int32) (u : Int32 × Int32 × Int32 × Int32 × Int32 × Int32 × Int32 × Int32 × Int32 × (Nat → Int32) × (Nat → Int32)) => Q r u.1 u.2.1 u.2.2.1 u.2.2.2.1 u.2.2.2.2.1 u.2.2.2.2.2.1 u.2.2.2.2.2.2.1 u.2.2.2.2.2.2.2.1 u.2.2.2.2.2.2.2.2.1 u.2.2.2.2.2.2.2.2.2.1 u.2.2.2.2.2.2.2.2.2.2) (fun (u : Int32 × Int32 × Int32 × Int32 × Int32 × Int32 × Int32 × Int32 × Int32 × (Nat → Int32) × (Nat → Int32)) => [(o, .inr (10, [.ref o_text, .int v_length, .ref o_now, .ref o_trial, .ref o_diary, .int v_acts, .int v_next, .ref o_kept, .ref o_isKept, .ref o_knownPlace, .ref o_knownLetter, .int v_known, .long v_seed, .int u.2.2.2.2.2.2.2.2.1, .int u.1, .int u.2.2.2.2.2.2.1, .int u.2.2.2.2.2.2.2.1, .int u.2.2.2.2.1, .int u.2.2.2.1, .int u.2.1, .int u.2.2.1, .int u.2.2.2.2.2.1, .ref o_letters, .ref o_starts, .int v_bestFrames, .ref o_bestLetters, .int v_alike, .int v_fitting, .ref o_deep, .ref o_worth, .int v_readLevel, .int v_readMany, .ref o_readTicks, .int v_part, .int v_ten])), (o_deep, .inl (cI, 360, .inl v_deep)), (o_knownLetter, .inl (cI, 5, .inl v_knownLetter)), (o_knownPlace, .inl (cI, 5, .inl v_knownPlace)), (o_letters, .inl (cI, 64, .inl u.2.2.2.2.2.2.2.2.2.1)), (o_now, .inl (cI, 361, .inl v_now)), (o_starts, .inl (cI, 64, .inl u.2.2.2.2.2.2.2.2.2.2))]) := by
  refine CtI.of (S := Int32 × Int32 × Int32 × Int32 × Int32 × Int32 × Int32 × Int32 × Int32 × (Nat → Int32) × (Nat → Int32)) (y := yX10_left) (Tc := wkX10_left) (rm := rmX10_left) (D := D) (tys := tys4 cI cJ cZ cW) (av := [.ref o, .int x1, .int x2]) (wc := [(o, .inr (10, [.ref o_text, .int v_length, .ref o_now, .ref o_trial, .ref o_diary, .int v_acts, .int v_next, .ref o_kept, .ref o_isKept, .ref o_knownPlace, .ref o_knownLetter, .int v_known, .long v_seed, .int v_wide, .int v_bits, .int v_parity, .int v_stops, .int v_idle, .int v_frames, .int v_failed, .int v_failedAt, .int v_margin, .ref o_letters, .ref o_starts, .int v_bestFrames, .ref o_bestLetters, .int v_alike, .int v_fitting, .ref o_deep, .ref o_worth, .int v_readLevel, .int v_readMany, .ref o_readTicks, .int v_part, .int v_ten])), (o_deep, .inl (cI, 360, .inl v_deep)), (o_knownLetter, .inl (cI, 5, .inl v_knownLetter)), (o_knownPlace, .inl (cI, 5, .inl v_knownPlace)), (o_letters, .inl (cI, 64, .inl v_letters)), (o_now, .inl (cI, 361, .inl v_now)), (o_starts, .inl (cI, 64, .inl v_starts))]) (post := (fun (r : Int32) (u : Int32 × Int32 × Int32 × Int32 × Int32 × Int32 × Int32 × Int32 × Int32 × (Nat → Int32) × (Nat → Int32)) => Q r u.1 u.2.1 u.2.2.1 u.2.2.2.1 u.2.2.2.2.1 u.2.2.2.2.2.1 u.2.2.2.2.2.2.1 u.2.2.2.2.2.2.2.1 u.2.2.2.2.2.2.2.2.1 u.2.2.2.2.2.2.2.2.2.1 u.2.2.2.2.2.2.2.2.2.2)) (w1 := (fun (u : Int32 × Int32 × Int32 × Int32 × Int32 × Int32 × Int32 × Int32 × Int32 × (Nat → Int32) × (Nat → Int32)) => [(o, .inr (10, [.ref o_text, .int v_length, .ref o_now, .ref o_trial, .ref o_diary, .int v_acts, .int v_next, .ref o_kept, .ref o_isKept, .ref o_knownPlace, .ref o_knownLetter, .int v_known, .long v_seed, .int u.2.2.2.2.2.2.2.2.1, .int u.1, .int u.2.2.2.2.2.2.1, .int u.2.2.2.2.2.2.2.1, .int u.2.2.2.2.1, .int u.2.2.2.1, .int u.2.1, .int u.2.2.1, .int u.2.2.2.2.2.1, .ref o_letters, .ref o_starts, .int v_bestFrames, .ref o_bestLetters, .int v_alike, .int v_fitting, .ref o_deep, .ref o_worth, .int v_readLevel, .int v_readMany, .ref o_readTicks, .int v_part, .int v_ten])), (o_deep, .inl (cI, 360, .inl v_deep)), (o_knownLetter, .inl (cI, 5, .inl v_knownLetter)), (o_knownPlace, .inl (cI, 5, .inl v_knownPlace)), (o_letters, .inl (cI, 64, .inl u.2.2.2.2.2.2.2.2.2.1)), (o_now, .inl (cI, 361, .inl v_now)), (o_starts, .inl (cI, 64, .inl u.2.2.2.2.2.2.2.2.2.2))])) (cc := cX10_left) (maxL := 7) RX10 rfl (by decide +kernel) rfl rfl [(0, .ref o), (1, .int x1), (2, .int x2)] rfl ?_
  intro p e s m args below meth c A Qm C hret
  have H9 : ∀ (n9 : Nat) (x3 : Int32) (x4 : Int32) (x5 : Int32) (v_bits : Int32) (v_failed : Int32) (v_failedAt : Int32) (v_frames : Int32) (v_idle : Int32) (v_margin : Int32) (v_parity : Int32) (v_stops : Int32) (v_wide : Int32) (v_letters : (Nat → Int32)) (v_starts : (Nat → Int32)), wX10_left_9 fu v_known v_deep v_knownLetter v_knownPlace v_now x1 x2 Q n9 x3 x4 x5 v_bits v_failed v_failedAt v_frames v_idle v_margin v_parity v_stops v_wide v_letters v_starts → G p l e rmX10_left s m args below meth c D A 7 0 0 Qm [(o, .inr (10, [.ref o_text, .int v_length, .ref o_now, .ref o_trial, .ref o_diary, .int v_acts, .int v_next, .ref o_kept, .ref o_isKept, .ref o_knownPlace, .ref o_knownLetter, .int v_known, .long v_seed, .int v_wide, .int v_bits, .int v_parity, .int v_stops, .int v_idle, .int v_frames, .int v_failed, .int v_failedAt, .int v_margin, .ref o_letters, .ref o_starts, .int v_bestFrames, .ref o_bestLetters, .int v_alike, .int v_fitting, .ref o_deep, .ref o_worth, .int v_readLevel, .int v_readMany, .ref o_readTicks, .int v_part, .int v_ten])), (o_deep, .inl (cI, 360, .inl v_deep)), (o_knownLetter, .inl (cI, 5, .inl v_knownLetter)), (o_knownPlace, .inl (cI, 5, .inl v_knownPlace)), (o_letters, .inl (cI, 64, .inl v_letters)), (o_now, .inl (cI, 361, .inl v_now)), (o_starts, .inl (cI, 64, .inl v_starts))] [(0, .ref o), (1, .int x1), (2, .int x2), (3, .int x3), (4, .int x4), (5, .int x5)] 9 [] := by
    intro n9
    induction n9 with
    | zero => intro x3 x4 x5 v_bits v_failed v_failedAt v_frames v_idle v_margin v_parity v_stops v_wide v_letters v_starts h; exact False.elim h
    | succ n9 ih9 =>
      have H75 : ∀ (x3 : Int32) (x4 : Int32) (x5 : Int32) (v_bits : Int32) (v_failed : Int32) (v_failedAt : Int32) (v_frames : Int32) (v_idle : Int32) (v_margin : Int32) (v_parity : Int32) (v_stops : Int32) (v_wide : Int32) (v_letters : (Nat → Int32)) (v_starts : (Nat → Int32)), wX10_left_75 fu v_known v_deep v_knownLetter v_knownPlace v_now x1 x2 Q (wX10_left_9 fu v_known v_deep v_knownLetter v_knownPlace v_now x1 x2 Q n9) x3 x4 x5 v_bits v_failed v_failedAt v_frames v_idle v_margin v_parity v_stops v_wide v_letters v_starts → G p l e rmX10_left s m args below meth c D A 7 0 0 Qm [(o, .inr (10, [.ref o_text, .int v_length, .ref o_now, .ref o_trial, .ref o_diary, .int v_acts, .int v_next, .ref o_kept, .ref o_isKept, .ref o_knownPlace, .ref o_knownLetter, .int v_known, .long v_seed, .int v_wide, .int v_bits, .int v_parity, .int v_stops, .int v_idle, .int v_frames, .int v_failed, .int v_failedAt, .int v_margin, .ref o_letters, .ref o_starts, .int v_bestFrames, .ref o_bestLetters, .int v_alike, .int v_fitting, .ref o_deep, .ref o_worth, .int v_readLevel, .int v_readMany, .ref o_readTicks, .int v_part, .int v_ten])), (o_deep, .inl (cI, 360, .inl v_deep)), (o_knownLetter, .inl (cI, 5, .inl v_knownLetter)), (o_knownPlace, .inl (cI, 5, .inl v_knownPlace)), (o_letters, .inl (cI, 64, .inl v_letters)), (o_now, .inl (cI, 361, .inl v_now)), (o_starts, .inl (cI, 64, .inl v_starts))] [(0, .ref o), (1, .int x1), (2, .int x2), (3, .int x3), (4, .int x4), (5, .int x5)] 75 [] := by
        intro x3 x4 x5 v_bits v_failed v_failedAt v_frames v_idle v_margin v_parity v_stops v_wide v_letters v_starts h
        unfold wX10_left_75 at h
        refine g_iinc C 5 x5 (x5 + (1 : Int32)) [(5, .int (x5 + (1 : Int32))), (0, .ref o), (1, .int x1), (2, .int x2), (3, .int x3), (4, .int x4)] dX10_left_75 rfl rfl (by decide) rfl ?_
        refine g_goto C 9 dX10_left_78 (by decide) ?_
        refine g_lv [1, 2, 3, 4, 5, 0] rfl ?_
        exact ih9  x3 x4 (x5 + (1 : Int32)) v_bits v_failed v_failedAt v_frames v_idle v_margin v_parity v_stops v_wide v_letters v_starts h
      have H70 : ∀ (x3 : Int32) (x5 : Int32) (k0 : Int32) (v_bits : Int32) (v_failed : Int32) (v_failedAt : Int32) (v_frames : Int32) (v_idle : Int32) (v_margin : Int32) (v_parity : Int32) (v_stops : Int32) (v_wide : Int32) (v_letters : (Nat → Int32)) (v_starts : (Nat → Int32)), wX10_left_70 fu v_known v_deep v_knownLetter v_knownPlace v_now x1 x2 Q (wX10_left_9 fu v_known v_deep v_knownLetter v_knownPlace v_now x1 x2 Q n9) x3 x5 k0 v_bits v_failed v_failedAt v_frames v_idle v_margin v_parity v_stops v_wide v_letters v_starts → G p l e rmX10_left s m args below meth c D A 7 0 0 Qm [(o, .inr (10, [.ref o_text, .int v_length, .ref o_now, .ref o_trial, .ref o_diary, .int v_acts, .int v_next, .ref o_kept, .ref o_isKept, .ref o_knownPlace, .ref o_knownLetter, .int v_known, .long v_seed, .int v_wide, .int v_bits, .int v_parity, .int v_stops, .int v_idle, .int v_frames, .int v_failed, .int v_failedAt, .int v_margin, .ref o_letters, .ref o_starts, .int v_bestFrames, .ref o_bestLetters, .int v_alike, .int v_fitting, .ref o_deep, .ref o_worth, .int v_readLevel, .int v_readMany, .ref o_readTicks, .int v_part, .int v_ten])), (o_deep, .inl (cI, 360, .inl v_deep)), (o_knownLetter, .inl (cI, 5, .inl v_knownLetter)), (o_knownPlace, .inl (cI, 5, .inl v_knownPlace)), (o_letters, .inl (cI, 64, .inl v_letters)), (o_now, .inl (cI, 361, .inl v_now)), (o_starts, .inl (cI, 64, .inl v_starts))] [(0, .ref o), (1, .int x1), (2, .int x2), (3, .int x3), (5, .int x5)] 70 [.int k0] := by
        intro x3 x5 k0 v_bits v_failed v_failedAt v_frames v_idle v_margin v_parity v_stops v_wide v_letters v_starts h
        unfold wX10_left_70 at h
        refine g_istore C [(4, .int k0), (0, .ref o), (1, .int x1), (2, .int x2), (3, .int x3), (5, .int x5)] dX10_left_70 (by decide) rfl ?_
        refine g_iinc C 4 x3 (x3 + (1 : Int32)) [(3, .int (x3 + (1 : Int32))), (4, .int k0), (0, .ref o), (1, .int x1), (2, .int x2), (5, .int x5)] dX10_left_72 rfl rfl (by decide) rfl ?_
        refine g_lv [2, 3, 4, 0, 1, 5] rfl ?_
        exact H75  (x3 + (1 : Int32)) k0 x5 v_bits v_failed v_failedAt v_frames v_idle v_margin v_parity v_stops v_wide v_letters v_starts h
      intro x3 x4 x5 v_bits v_failed v_failedAt v_frames v_idle v_margin v_parity v_stops v_wide v_letters v_starts h
      unfold wX10_left_9 at h
      refine g_iload C 5 5 x5 dX10_left_9 rfl ?_
      refine g_sipush C (768 : Int32) dX10_left_11 rfl ?_
      refine g_icmp_ge C 81 dX10_left_14 (by decide) (fun c1 => ?_) (fun c1 => ?_)
      · have h := wp_t c1 h
        refine g_iload_n C 2 2 x2 dX10_left_81 rfl rfl ?_
        refine g_if_eq C 90 dX10_left_82 (by decide) (fun c2 => ?_) (fun c2 => ?_)
        · have h := wp_t c2 h
          refine g_iload_n C 3 3 x3 dX10_left_90 rfl rfl ?_
          exact hret _ (v_bits, v_failed, v_failedAt, v_frames, v_idle, v_margin, v_parity, v_stops, v_wide, v_letters, v_starts) _ _ _ dX10_left_91 h rfl
        have h := wp_f c2 h
        refine g_iload C 4 4 x4 dX10_left_85 rfl ?_
        refine g_goto C 91 dX10_left_87 (by decide) ?_
        exact hret _ (v_bits, v_failed, v_failedAt, v_frames, v_idle, v_margin, v_parity, v_stops, v_wide, v_letters, v_starts) _ _ _ dX10_left_91 h rfl
      have h := wp_f c1 h
      refine g_aload_n C 0 0 o dX10_left_17 rfl rfl ?_
      refine g_iload C 5 5 x5 dX10_left_18 rfl ?_
      refine g_callSi0 (As := [.int x5]) (rest := [.ref o]) C (c_X10_codeOf l D cI cJ cZ cW x5 fu _ h) 1 gd_X10_148 rfl rfl rfl (by decide +kernel) ⟨Nat.le_of_ble_eq_true rfl, Nat.le_of_ble_eq_true rfl⟩ ⟨Nat.le_of_ble_eq_true rfl, Nat.le_of_ble_eq_true rfl⟩ rfl rfl (Nat.le_of_ble_eq_true rfl) [] rfl rfl dX10_left_20 (fun r3 h => ?_)
      refine g_callVi (As := [.int r3]) (rest := []) C (c_X10_layCode l D cI cJ cZ cW o o_text o_now o_trial o_diary o_kept o_isKept o_knownPlace o_knownLetter o_letters o_starts o_bestLetters o_deep o_worth o_readTicks v_length v_acts v_next v_known v_seed v_wide v_bits v_parity v_stops v_idle v_frames v_failed v_failedAt v_margin v_bestFrames v_alike v_fitting v_readLevel v_readMany v_part v_ten r3 fu _ h) 1 gd_X10_152 rfl rfl rfl (by decide +kernel) ⟨Nat.le_of_ble_eq_true rfl, Nat.le_of_ble_eq_true rfl⟩ ⟨Nat.le_of_ble_eq_true rfl, Nat.le_of_ble_eq_true rfl⟩ 10 0 rfl rfl rfl rfl (Nat.le_of_ble_eq_true rfl) [0] [some 0, none, none, none, none, none, none] rfl rfl rfl dX10_left_23 (fun r9 u h => ?_)
      obtain ⟨z4, z5, z6, z7, z8⟩ := u
      obtain ⟨hzr9, h⟩ := h
      refine ⟨[(o, .inr (10, [.ref o_text, .int v_length, .ref o_now, .ref o_trial, .ref o_diary, .int v_acts, .int v_next, .ref o_kept, .ref o_isKept, .ref o_knownPlace, .ref o_knownLetter, .int v_known, .long v_seed, .int z8, .int z4, .int z6, .int z7, .int z5, .int v_frames, .int v_failed, .int v_failedAt, .int v_margin, .ref o_letters, .ref o_starts, .int v_bestFrames, .ref o_bestLetters, .int v_alike, .int v_fitting, .ref o_deep, .ref o_worth, .int v_readLevel, .int v_readMany, .ref o_readTicks, .int v_part, .int v_ten])), (o_deep, .inl (cI, 360, .inl v_deep)), (o_knownLetter, .inl (cI, 5, .inl v_knownLetter)), (o_knownPlace, .inl (cI, 5, .inl v_knownPlace)), (o_letters, .inl (cI, 64, .inl v_letters)), (o_now, .inl (cI, 361, .inl v_now)), (o_starts, .inl (cI, 64, .inl v_starts))], rfl, rfl, rfl, ?_⟩
      refine g_istore C [(6, .int r9), (0, .ref o), (1, .int x1), (2, .int x2), (3, .int x3), (4, .int x4), (5, .int x5)] dX10_left_26 (by decide) rfl ?_
      refine g_aload_n C 0 1 o dX10_left_28 rfl rfl ?_
      refine g_aload_n C 0 1 o dX10_left_29 rfl rfl ?_
      refine g_get C 10 ix_10 0 _ rfl rfl 2 (by decide) wm_128 rfl (.ref o_now) rfl dX10_left_30 ?_
      refine g_callVv (As := [.ref o_now]) (rest := []) C (c_X10_read l D cI cJ cZ cW o o_text o_now o_trial o_diary o_kept o_isKept o_knownPlace o_knownLetter o_letters o_starts o_bestLetters o_deep o_worth o_readTicks o_now v_length v_acts v_next v_known v_seed z8 z4 z6 z7 z5 v_frames v_failed v_failedAt v_margin v_bestFrames v_alike v_fitting v_readLevel v_readMany v_part v_ten v_deep v_letters v_starts v_now fu _ h) 1 gd_X10_155 rfl rfl rfl (by decide +kernel) ⟨Nat.le_of_ble_eq_true rfl, Nat.le_of_ble_eq_true rfl⟩ ⟨Nat.le_of_ble_eq_true rfl, Nat.le_of_ble_eq_true rfl⟩ 10 0 rfl rfl rfl rfl (Nat.le_of_ble_eq_true rfl) [0, 1, 4, 6, 5] [some 0, some 1, none, none, some 2, some 4, some 3] rfl rfl rfl dX10_left_33 (fun u h => ?_)
      obtain ⟨z10, z11, z12, z13, z14, z15⟩ := u
      refine ⟨[(o, .inr (10, [.ref o_text, .int v_length, .ref o_now, .ref o_trial, .ref o_diary, .int v_acts, .int v_next, .ref o_kept, .ref o_isKept, .ref o_knownPlace, .ref o_knownLetter, .int v_known, .long v_seed, .int z8, .int z4, .int z6, .int z7, .int z5, .int z12, .int z10, .int z11, .int z13, .ref o_letters, .ref o_starts, .int v_bestFrames, .ref o_bestLetters, .int v_alike, .int v_fitting, .ref o_deep, .ref o_worth, .int v_readLevel, .int v_readMany, .ref o_readTicks, .int v_part, .int v_ten])), (o_deep, .inl (cI, 360, .inl v_deep)), (o_knownLetter, .inl (cI, 5, .inl v_knownLetter)), (o_knownPlace, .inl (cI, 5, .inl v_knownPlace)), (o_letters, .inl (cI, 64, .inl z14)), (o_now, .inl (cI, 361, .inl v_now)), (o_starts, .inl (cI, 64, .inl z15))], rfl, rfl, rfl, ?_⟩
      refine g_iload C 6 0 r9 dX10_left_36 rfl ?_
      refine g_if_eq C 75 dX10_left_38 (by decide) (fun c16 => ?_) (fun c16 => ?_)
      · have h := wp_t c16 h
        refine g_lv [1, 2, 3, 4, 5, 6] rfl ?_
        exact H75  x3 x4 x5 z4 z10 z11 z12 z5 z13 z6 z7 z8 z14 z15 h
      have h := wp_f c16 h
      refine g_aload_n C 0 1 o dX10_left_41 rfl rfl ?_
      refine g_callVi0 (As := []) (rest := []) C (c_X10_fits l D cI cJ cZ cW o o_text o_now o_trial o_diary o_kept o_isKept o_knownPlace o_knownLetter o_letters o_starts o_bestLetters o_deep o_worth o_readTicks v_length v_acts v_next v_known v_seed z8 z4 z6 z7 z5 z12 z10 z11 z13 v_bestFrames v_alike v_fitting v_readLevel v_readMany v_part v_ten fu _ h) 0 gd_X10_158 rfl rfl rfl (by decide +kernel) ⟨Nat.le_of_ble_eq_true rfl, Nat.le_of_ble_eq_true rfl⟩ ⟨Nat.le_of_ble_eq_true rfl, Nat.le_of_ble_eq_true rfl⟩ 10 0 rfl rfl rfl rfl (Nat.le_of_ble_eq_true rfl) [0] rfl rfl dX10_left_42 (fun r17 h => ?_)
      obtain ⟨hzr17, h⟩ := h
      refine g_if_eq C 75 dX10_left_45 (by decide) (fun c18 => ?_) (fun c18 => ?_)
      · have h := wp_t c18 h
        refine g_lv [1, 2, 3, 4, 5, 6] rfl ?_
        exact H75  x3 x4 x5 z4 z10 z11 z12 z5 z13 z6 z7 z8 z14 z15 h
      have h := wp_f c18 h
      refine g_aload_n C 0 1 o dX10_left_48 rfl rfl ?_
      refine g_iload_n C 1 2 x1 dX10_left_49 rfl rfl ?_
      refine g_callVi0 (As := [.int x1]) (rest := []) C (c_X10_isSo l D cI cJ cZ cW o o_text o_now o_trial o_diary o_kept o_isKept o_knownPlace o_knownLetter o_letters o_starts o_bestLetters o_deep o_worth o_readTicks v_length v_acts v_next v_known v_seed z8 z4 z6 z7 z5 z12 z10 z11 z13 v_bestFrames v_alike v_fitting v_readLevel v_readMany v_part v_ten v_knownLetter v_knownPlace z14 x1 fu _ h) 1 gd_X10_188 rfl rfl rfl (by decide +kernel) ⟨Nat.le_of_ble_eq_true rfl, Nat.le_of_ble_eq_true rfl⟩ ⟨Nat.le_of_ble_eq_true rfl, Nat.le_of_ble_eq_true rfl⟩ 10 0 rfl rfl rfl rfl (Nat.le_of_ble_eq_true rfl) [0, 2, 3, 4] rfl rfl dX10_left_50 (fun r19 h => ?_)
      obtain ⟨hzr19, h⟩ := h
      refine g_if_eq C 75 dX10_left_53 (by decide) (fun c20 => ?_) (fun c20 => ?_)
      · have h := wp_t c20 h
        refine g_lv [1, 2, 3, 4, 5, 6] rfl ?_
        exact H75  x3 x4 x5 z4 z10 z11 z12 z5 z13 z6 z7 z8 z14 z15 h
      have h := wp_f c20 h
      refine g_iload_n C 3 4 x3 dX10_left_56 rfl rfl ?_
      refine g_if_ne C 68 dX10_left_57 (by decide) (fun c21 => ?_) (fun c21 => ?_)
      · have h := wp_f c21 h
        refine g_iload C 4 5 x4 dX10_left_68 rfl ?_
        refine g_lv [1, 2, 3, 4, 6] rfl ?_
        exact H70  x3 x5 x4 z4 z10 z11 z12 z5 z13 z6 z7 z8 z14 z15 h
      have h := wp_t c21 h
      refine g_iload C 5 6 x5 dX10_left_60 rfl ?_
      refine g_callSi0 (As := [.int x5]) (rest := []) C (c_X10_codeOf l D cI cJ cZ cW x5 fu _ h) 1 gd_X10_148 rfl rfl rfl (by decide +kernel) ⟨Nat.le_of_ble_eq_true rfl, Nat.le_of_ble_eq_true rfl⟩ ⟨Nat.le_of_ble_eq_true rfl, Nat.le_of_ble_eq_true rfl⟩ rfl rfl (Nat.le_of_ble_eq_true rfl) [] rfl rfl dX10_left_62 (fun r22 h => ?_)
      refine g_goto C 70 dX10_left_65 (by decide) ?_
      refine g_lv [1, 2, 3, 4, 6] rfl ?_
      exact H70  x3 x5 r22 z4 z10 z11 z12 z5 z13 z6 z7 z8 z14 z15 h
  unfold wp_X10_left at h
  refine g_iconst C (0 : Int32) dX10_left_0 rfl ?_
  refine g_istore_n C [(3, .int (0 : Int32)), (0, .ref o), (1, .int x1), (2, .int x2)] dX10_left_1 rfl (by decide) rfl ?_
  refine g_bipush C (-9 : Int32) dX10_left_2 rfl ?_
  refine g_istore C [(4, .int (-9 : Int32)), (3, .int (0 : Int32)), (0, .ref o), (1, .int x1), (2, .int x2)] dX10_left_4 (by decide) rfl ?_
  refine g_iconst C (0 : Int32) dX10_left_6 rfl ?_
  refine g_istore C [(5, .int (0 : Int32)), (4, .int (-9 : Int32)), (3, .int (0 : Int32)), (0, .ref o), (1, .int x1), (2, .int x2)] dX10_left_7 (by decide) rfl ?_
  refine g_lv [3, 4, 5, 2, 1, 0] rfl ?_
  exact H9 fu  (0 : Int32) (-9 : Int32) (0 : Int32) v_bits v_failed v_failedAt v_frames v_idle v_margin v_parity v_stops v_wide v_letters v_starts h
abbrev rmX10_fit : Room := { frames := 5, cells := 0, slots := 0, locals := 123 }
def wp_X10_fit (fu : Nat) (v_now : (Nat → Int32)) (v_bestFrames : Int32) (v_bits : Int32) (v_failed : Int32) (v_failedAt : Int32) (v_fitting : Int32) (v_frames : Int32) (v_idle : Int32) (v_margin : Int32) (v_parity : Int32) (v_stops : Int32) (v_wide : Int32) (v_bestLetters : (Nat → Int32)) (v_deep : (Nat → Int32)) (v_letters : (Nat → Int32)) (v_starts : (Nat → Int32)) (Q : Int32 → Int32 → Int32 → Int32 → Int32 → Int32 → Int32 → Int32 → Int32 → Int32 → Int32 → Int32 → (Nat → Int32) → (Nat → Int32) → (Nat → Int32) → (Nat → Int32) → Prop) : Prop := wp_X10_best fu v_now v_bestFrames v_bits v_failed v_failedAt v_fitting v_frames v_idle v_margin v_parity v_stops v_wide v_bestLetters v_deep v_letters v_starts (fun (r16 : Int32) (z1 : Int32) (z2 : Int32) (z3 : Int32) (z4 : Int32) (z5 : Int32) (z6 : Int32) (z7 : Int32) (z8 : Int32) (z9 : Int32) (z10 : Int32) (z11 : Int32) (z12 : (Nat → Int32)) (z13 : (Nat → Int32)) (z14 : (Nat → Int32)) (z15 : (Nat → Int32)) => Q z5 z1 z2 z3 z4 z5 z6 z7 z8 z9 z10 z11 z12 z13 z14 z15)
set_option maxHeartbeats 4000000 in
set_option maxRecDepth 100000 in
theorem c_X10_fit (l : Launch) (D : va_G) (cI cJ cZ cW : ClassId) (o o_text o_now o_trial o_diary o_kept o_isKept o_knownPlace o_knownLetter o_letters o_starts o_bestLetters o_deep o_worth o_readTicks : Nat) (v_length : Int32) (v_acts : Int32) (v_next : Int32) (v_known : Int32) (v_seed : Int64) (v_wide : Int32) (v_bits : Int32) (v_parity : Int32) (v_stops : Int32) (v_idle : Int32) (v_frames : Int32) (v_failed : Int32) (v_failedAt : Int32) (v_margin : Int32) (v_bestFrames : Int32) (v_alike : Int32) (v_fitting : Int32) (v_readLevel : Int32) (v_readMany : Int32) (v_part : Int32) (v_ten : Int32) (v_bestLetters : (Nat → Int32)) (v_deep : (Nat → Int32)) (v_letters : (Nat → Int32)) (v_now : (Nat → Int32)) (v_starts : (Nat → Int32)) (fu : Nat) (Q : Int32 → Int32 → Int32 → Int32 → Int32 → Int32 → Int32 → Int32 → Int32 → Int32 → Int32 → Int32 → (Nat → Int32) → (Nat → Int32) → (Nat → Int32) → (Nat → Int32) → Prop) (h : wp_X10_fit fu v_now v_bestFrames v_bits v_failed v_failedAt v_fitting v_frames v_idle v_margin v_parity v_stops v_wide v_bestLetters v_deep v_letters v_starts Q) : CtI l yX10_fit wkX10_fit rmX10_fit D (tys4 cI cJ cZ cW) [.ref o] [(o, .inr (10, [.ref o_text, .int v_length, .ref o_now, .ref o_trial, .ref o_diary, .int v_acts, .int v_next, .ref o_kept, .ref o_isKept, .ref o_knownPlace, .ref o_knownLetter, .int v_known, .long v_seed, .int v_wide, .int v_bits, .int v_parity, .int v_stops, .int v_idle, .int v_frames, .int v_failed, .int v_failedAt, .int v_margin, .ref o_letters, .ref o_starts, .int v_bestFrames, .ref o_bestLetters, .int v_alike, .int v_fitting, .ref o_deep, .ref o_worth, .int v_readLevel, .int v_readMany, .ref o_readTicks, .int v_part, .int v_ten])), (o_bestLetters, .inl (cI, 64, .inl v_bestLetters)), (o_deep, .inl (cI, 360, .inl v_deep)), (o_letters, .inl (cI, 64, .inl v_letters)), (o_now, .inl (cI, 361, .inl v_now)), (o_starts, .inl (cI, 64, .inl v_starts))] (fun (r : Int32) (u : Int32 × Int32 × Int32 × Int32 × Int32 × Int32 × Int32 × Int32 × Int32 × Int32 × Int32 × (Nat → Int32) × (Nat → Int32) × (Nat → Int32) × (Nat → Int32)) => Q r u.1 u.2.1 u.2.2.1 u.2.2.2.1 u.2.2.2.2.1 u.2.2.2.2.2.1 u.2.2.2.2.2.2.1 u.2.2.2.2.2.2.2.1 u.2.2.2.2.2.2.2.2.1 u.2.2.2.2.2.2.2.2.2.1 u.2.2.2.2.2.2.2.2.2.2.1 u.2.2.2.2.2.2.2.2.2.2.2.1 u.2.2.2.2.2.2.2.2.2.2.2.2.1 u.2.2.2.2.2.2.2.2.2.2.2.2.2.1 u.2.2.2.2.2.2.2.2.2.2.2.2.2.2) (fun (u : Int32 × Int32 × Int32 × Int32 × Int32 × Int32 × Int32 × Int32 × Int32 × Int32 × Int32 × (Nat → Int32) × (Nat → Int32) × (Nat → Int32) × (Nat → Int32)) => [(o, .inr (10, [.ref o_text, .int v_length, .ref o_now, .ref o_trial, .ref o_diary, .int v_acts, .int v_next, .ref o_kept, .ref o_isKept, .ref o_knownPlace, .ref o_knownLetter, .int v_known, .long v_seed, .int u.2.2.2.2.2.2.2.2.2.2.1, .int u.2.1, .int u.2.2.2.2.2.2.2.2.1, .int u.2.2.2.2.2.2.2.2.2.1, .int u.2.2.2.2.2.2.1, .int u.2.2.2.2.2.1, .int u.2.2.1, .int u.2.2.2.1, .int u.2.2.2.2.2.2.2.1, .ref o_letters, .ref o_starts, .int u.1, .ref o_bestLetters, .int v_alike, .int u.2.2.2.2.1, .ref o_deep, .ref o_worth, .int v_readLevel, .int v_readMany, .ref o_readTicks, .int v_part, .int v_ten])), (o_bestLetters, .inl (cI, 64, .inl u.2.2.2.2.2.2.2.2.2.2.2.1)), (o_deep, .inl (cI, 360, .inl u.2.2.2.2.2.2.2.2.2.2.2.2.1)), (o_letters, .inl (cI, 64, .inl u.2.2.2.2.2.2.2.2.2.2.2.2.2.1)), (o_now, .inl (cI, 361, .inl v_now)), (o_starts, .inl (cI, 64, .inl u.2.2.2.2.2.2.2.2.2.2.2.2.2.2))]) := by
  refine CtI.of (S := Int32 × Int32 × Int32 × Int32 × Int32 × Int32 × Int32 × Int32 × Int32 × Int32 × Int32 × (Nat → Int32) × (Nat → Int32) × (Nat → Int32) × (Nat → Int32)) (y := yX10_fit) (Tc := wkX10_fit) (rm := rmX10_fit) (D := D) (tys := tys4 cI cJ cZ cW) (av := [.ref o]) (wc := [(o, .inr (10, [.ref o_text, .int v_length, .ref o_now, .ref o_trial, .ref o_diary, .int v_acts, .int v_next, .ref o_kept, .ref o_isKept, .ref o_knownPlace, .ref o_knownLetter, .int v_known, .long v_seed, .int v_wide, .int v_bits, .int v_parity, .int v_stops, .int v_idle, .int v_frames, .int v_failed, .int v_failedAt, .int v_margin, .ref o_letters, .ref o_starts, .int v_bestFrames, .ref o_bestLetters, .int v_alike, .int v_fitting, .ref o_deep, .ref o_worth, .int v_readLevel, .int v_readMany, .ref o_readTicks, .int v_part, .int v_ten])), (o_bestLetters, .inl (cI, 64, .inl v_bestLetters)), (o_deep, .inl (cI, 360, .inl v_deep)), (o_letters, .inl (cI, 64, .inl v_letters)), (o_now, .inl (cI, 361, .inl v_now)), (o_starts, .inl (cI, 64, .inl v_starts))]) (post := (fun (r : Int32) (u : Int32 × Int32 × Int32 × Int32 × Int32 × Int32 × Int32 × Int32 × Int32 × Int32 × Int32 × (Nat → Int32) × (Nat → Int32) × (Nat → Int32) × (Nat → Int32)) => Q r u.1 u.2.1 u.2.2.1 u.2.2.2.1 u.2.2.2.2.1 u.2.2.2.2.2.1 u.2.2.2.2.2.2.1 u.2.2.2.2.2.2.2.1 u.2.2.2.2.2.2.2.2.1 u.2.2.2.2.2.2.2.2.2.1 u.2.2.2.2.2.2.2.2.2.2.1 u.2.2.2.2.2.2.2.2.2.2.2.1 u.2.2.2.2.2.2.2.2.2.2.2.2.1 u.2.2.2.2.2.2.2.2.2.2.2.2.2.1 u.2.2.2.2.2.2.2.2.2.2.2.2.2.2)) (w1 := (fun (u : Int32 × Int32 × Int32 × Int32 × Int32 × Int32 × Int32 × Int32 × Int32 × Int32 × Int32 × (Nat → Int32) × (Nat → Int32) × (Nat → Int32) × (Nat → Int32)) => [(o, .inr (10, [.ref o_text, .int v_length, .ref o_now, .ref o_trial, .ref o_diary, .int v_acts, .int v_next, .ref o_kept, .ref o_isKept, .ref o_knownPlace, .ref o_knownLetter, .int v_known, .long v_seed, .int u.2.2.2.2.2.2.2.2.2.2.1, .int u.2.1, .int u.2.2.2.2.2.2.2.2.1, .int u.2.2.2.2.2.2.2.2.2.1, .int u.2.2.2.2.2.2.1, .int u.2.2.2.2.2.1, .int u.2.2.1, .int u.2.2.2.1, .int u.2.2.2.2.2.2.2.1, .ref o_letters, .ref o_starts, .int u.1, .ref o_bestLetters, .int v_alike, .int u.2.2.2.2.1, .ref o_deep, .ref o_worth, .int v_readLevel, .int v_readMany, .ref o_readTicks, .int v_part, .int v_ten])), (o_bestLetters, .inl (cI, 64, .inl u.2.2.2.2.2.2.2.2.2.2.2.1)), (o_deep, .inl (cI, 360, .inl u.2.2.2.2.2.2.2.2.2.2.2.2.1)), (o_letters, .inl (cI, 64, .inl u.2.2.2.2.2.2.2.2.2.2.2.2.2.1)), (o_now, .inl (cI, 361, .inl v_now)), (o_starts, .inl (cI, 64, .inl u.2.2.2.2.2.2.2.2.2.2.2.2.2.2))])) (cc := cX10_fit) (maxL := 2) RX10 rfl (by decide +kernel) rfl rfl [(0, .ref o)] rfl ?_
  intro p e s m args below meth c A Qm C hret
  unfold wp_X10_fit at h
  refine g_aload_n C 0 0 o dX10_fit_0 rfl rfl ?_
  refine g_aload_n C 0 0 o dX10_fit_1 rfl rfl ?_
  refine g_get C 10 ix_10 0 _ rfl rfl 2 (by decide) wm_128 rfl (.ref o_now) rfl dX10_fit_2 ?_
  refine g_callVi (As := [.ref o_now]) (rest := []) C (c_X10_best l D cI cJ cZ cW o o_text o_now o_trial o_diary o_kept o_isKept o_knownPlace o_knownLetter o_letters o_starts o_bestLetters o_deep o_worth o_readTicks o_now v_length v_acts v_next v_known v_seed v_wide v_bits v_parity v_stops v_idle v_frames v_failed v_failedAt v_margin v_bestFrames v_alike v_fitting v_readLevel v_readMany v_part v_ten v_bestLetters v_deep v_letters v_starts v_now fu _ h) 1 gd_X10_165 rfl rfl rfl (by decide +kernel) ⟨Nat.le_of_ble_eq_true rfl, Nat.le_of_ble_eq_true rfl⟩ ⟨Nat.le_of_ble_eq_true rfl, Nat.le_of_ble_eq_true rfl⟩ 10 0 rfl rfl rfl rfl (Nat.le_of_ble_eq_true rfl) [0, 1, 2, 3, 5, 4] [some 0, some 1, some 2, some 3, some 5, some 4] rfl rfl rfl dX10_fit_5 (fun r16 u h => ?_)
  obtain ⟨z1, z2, z3, z4, z5, z6, z7, z8, z9, z10, z11, z12, z13, z14, z15⟩ := u
  refine ⟨[(o, .inr (10, [.ref o_text, .int v_length, .ref o_now, .ref o_trial, .ref o_diary, .int v_acts, .int v_next, .ref o_kept, .ref o_isKept, .ref o_knownPlace, .ref o_knownLetter, .int v_known, .long v_seed, .int z11, .int z2, .int z9, .int z10, .int z7, .int z6, .int z3, .int z4, .int z8, .ref o_letters, .ref o_starts, .int z1, .ref o_bestLetters, .int v_alike, .int z5, .ref o_deep, .ref o_worth, .int v_readLevel, .int v_readMany, .ref o_readTicks, .int v_part, .int v_ten])), (o_bestLetters, .inl (cI, 64, .inl z12)), (o_deep, .inl (cI, 360, .inl z13)), (o_letters, .inl (cI, 64, .inl z14)), (o_now, .inl (cI, 361, .inl v_now)), (o_starts, .inl (cI, 64, .inl z15))], rfl, rfl, rfl, ?_⟩
  refine g_istore_n C [(1, .int r16), (0, .ref o)] dX10_fit_8 rfl (by decide) rfl ?_
  refine g_aload_n C 0 1 o dX10_fit_9 rfl rfl ?_
  refine g_get C 10 ix_10 0 _ rfl rfl 27 (by decide) wm_389 rfl (.int z5) rfl dX10_fit_10 ?_
  exact hret _ (z1, z2, z3, z4, z5, z6, z7, z8, z9, z10, z11, z12, z13, z14, z15) _ _ _ dX10_fit_13 h rfl
abbrev rmX10_about : Room := { frames := 6, cells := 0, slots := 0, locals := 146 }
def wp_X10_about (fu : Nat) (v_acts : Int32) (v_known : Int32) (v_length : Int32) (v_knownLetter : (Nat → Int32)) (v_knownPlace : (Nat → Int32)) (v_now : (Nat → Int32)) (x1 : Int32) (v_alike : Int32) (v_bestFrames : Int32) (v_bits : Int32) (v_failed : Int32) (v_failedAt : Int32) (v_fitting : Int32) (v_frames : Int32) (v_idle : Int32) (v_margin : Int32) (v_parity : Int32) (v_stops : Int32) (v_wide : Int32) (v_bestLetters : (Nat → Int32)) (v_deep : (Nat → Int32)) (v_letters : (Nat → Int32)) (v_starts : (Nat → Int32)) (Q : Int32 → Int32 → Int32 → Int32 → Int32 → Int32 → Int32 → Int32 → Int32 → Int32 → Int32 → Int32 → Int32 → (Nat → Int32) → (Nat → Int32) → (Nat → Int32) → (Nat → Int32) → Prop) : Prop := (if x1 = (0 : Int32) then Q (v_now (ix (360 : Int32))) v_alike v_bestFrames v_bits v_failed v_failedAt v_fitting v_frames v_idle v_margin v_parity v_stops v_wide v_bestLetters v_deep v_letters v_starts else (if x1 = (1 : Int32) then wp_X10_edges fu v_now (fun (r1 : Int32) => Q r1 v_alike v_bestFrames v_bits v_failed v_failedAt v_fitting v_frames v_idle v_margin v_parity v_stops v_wide v_bestLetters v_deep v_letters v_starts) else (if x1 = (2 : Int32) then wp_X10_fit fu v_now v_bestFrames v_bits v_failed v_failedAt v_fitting v_frames v_idle v_margin v_parity v_stops v_wide v_bestLetters v_deep v_letters v_starts (fun (r17 : Int32) (z2 : Int32) (z3 : Int32) (z4 : Int32) (z5 : Int32) (z6 : Int32) (z7 : Int32) (z8 : Int32) (z9 : Int32) (z10 : Int32) (z11 : Int32) (z12 : Int32) (z13 : (Nat → Int32)) (z14 : (Nat → Int32)) (z15 : (Nat → Int32)) (z16 : (Nat → Int32)) => Q r17 v_alike z2 z3 z4 z5 z6 z7 z8 z9 z10 z11 z12 z13 z14 z15 z16) else (if x1 = (3 : Int32) then wp_X10_best fu v_now v_bestFrames v_bits v_failed v_failedAt v_fitting v_frames v_idle v_margin v_parity v_stops v_wide v_bestLetters v_deep v_letters v_starts (fun (r33 : Int32) (z18 : Int32) (z19 : Int32) (z20 : Int32) (z21 : Int32) (z22 : Int32) (z23 : Int32) (z24 : Int32) (z25 : Int32) (z26 : Int32) (z27 : Int32) (z28 : Int32) (z29 : (Nat → Int32)) (z30 : (Nat → Int32)) (z31 : (Nat → Int32)) (z32 : (Nat → Int32)) => Q r33 v_alike z18 z19 z20 z21 z22 z23 z24 z25 z26 z27 z28 z29 z30 z31 z32) else (if x1 = (4 : Int32) then wp_X10_alikes fu v_now v_alike v_bestFrames v_bits v_failed v_failedAt v_fitting v_frames v_idle v_margin v_parity v_stops v_wide v_bestLetters v_deep v_letters v_starts (fun (r50 : Int32) (z34 : Int32) (z35 : Int32) (z36 : Int32) (z37 : Int32) (z38 : Int32) (z39 : Int32) (z40 : Int32) (z41 : Int32) (z42 : Int32) (z43 : Int32) (z44 : Int32) (z45 : Int32) (z46 : (Nat → Int32)) (z47 : (Nat → Int32)) (z48 : (Nat → Int32)) (z49 : (Nat → Int32)) => Q r50 z34 z35 z36 z37 z38 z39 z40 z41 z42 z43 z44 z45 z46 z47 z48 z49) else (if x1 = (5 : Int32) then wp_X10_width fu v_now (fun (r51 : Int32) => Q r51 v_alike v_bestFrames v_bits v_failed v_failedAt v_fitting v_frames v_idle v_margin v_parity v_stops v_wide v_bestLetters v_deep v_letters v_starts) else (if x1 = (6 : Int32) then wp_X10_left fu v_known v_deep v_knownLetter v_knownPlace v_now (31 : Int32) (0 : Int32) v_bits v_failed v_failedAt v_frames v_idle v_margin v_parity v_stops v_wide v_letters v_starts (fun (r63 : Int32) (z52 : Int32) (z53 : Int32) (z54 : Int32) (z55 : Int32) (z56 : Int32) (z57 : Int32) (z58 : Int32) (z59 : Int32) (z60 : Int32) (z61 : (Nat → Int32)) (z62 : (Nat → Int32)) => Q r63 v_alike v_bestFrames z52 z53 z54 v_fitting z55 z56 z57 z58 z59 z60 v_bestLetters v_deep z61 z62) else (if x1 = (7 : Int32) then wp_X10_left fu v_known v_deep v_knownLetter v_knownPlace v_now (31 : Int32) (1 : Int32) v_bits v_failed v_failedAt v_frames v_idle v_margin v_parity v_stops v_wide v_letters v_starts (fun (r75 : Int32) (z64 : Int32) (z65 : Int32) (z66 : Int32) (z67 : Int32) (z68 : Int32) (z69 : Int32) (z70 : Int32) (z71 : Int32) (z72 : Int32) (z73 : (Nat → Int32)) (z74 : (Nat → Int32)) => Q r75 v_alike v_bestFrames z64 z65 z66 v_fitting z67 z68 z69 z70 z71 z72 v_bestLetters v_deep z73 z74) else (if x1 = (8 : Int32) then Q v_acts v_alike v_bestFrames v_bits v_failed v_failedAt v_fitting v_frames v_idle v_margin v_parity v_stops v_wide v_bestLetters v_deep v_letters v_starts else (if x1 = (9 : Int32) then Q v_known v_alike v_bestFrames v_bits v_failed v_failedAt v_fitting v_frames v_idle v_margin v_parity v_stops v_wide v_bestLetters v_deep v_letters v_starts else (if x1 = (10 : Int32) then Q v_length v_alike v_bestFrames v_bits v_failed v_failedAt v_fitting v_frames v_idle v_margin v_parity v_stops v_wide v_bestLetters v_deep v_letters v_starts else Q (-2 : Int32) v_alike v_bestFrames v_bits v_failed v_failedAt v_fitting v_frames v_idle v_margin v_parity v_stops v_wide v_bestLetters v_deep v_letters v_starts)))))))))))
set_option maxHeartbeats 4000000 in
set_option maxRecDepth 100000 in
theorem c_X10_about (l : Launch) (D : va_G) (cI cJ cZ cW : ClassId) (o o_text o_now o_trial o_diary o_kept o_isKept o_knownPlace o_knownLetter o_letters o_starts o_bestLetters o_deep o_worth o_readTicks : Nat) (v_length : Int32) (v_acts : Int32) (v_next : Int32) (v_known : Int32) (v_seed : Int64) (v_wide : Int32) (v_bits : Int32) (v_parity : Int32) (v_stops : Int32) (v_idle : Int32) (v_frames : Int32) (v_failed : Int32) (v_failedAt : Int32) (v_margin : Int32) (v_bestFrames : Int32) (v_alike : Int32) (v_fitting : Int32) (v_readLevel : Int32) (v_readMany : Int32) (v_part : Int32) (v_ten : Int32) (v_bestLetters : (Nat → Int32)) (v_deep : (Nat → Int32)) (v_knownLetter : (Nat → Int32)) (v_knownPlace : (Nat → Int32)) (v_letters : (Nat → Int32)) (v_now : (Nat → Int32)) (v_starts : (Nat → Int32)) (x1 : Int32) (fu : Nat) (Q : Int32 → Int32 → Int32 → Int32 → Int32 → Int32 → Int32 → Int32 → Int32 → Int32 → Int32 → Int32 → Int32 → (Nat → Int32) → (Nat → Int32) → (Nat → Int32) → (Nat → Int32) → Prop) (h : wp_X10_about fu v_acts v_known v_length v_knownLetter v_knownPlace v_now x1 v_alike v_bestFrames v_bits v_failed v_failedAt v_fitting v_frames v_idle v_margin v_parity v_stops v_wide v_bestLetters v_deep v_letters v_starts Q) : CtI l yX10_about wkX10_about rmX10_about D (tys4 cI cJ cZ cW) [.ref o, .int x1] [(o, .inr (10, [.ref o_text, .int v_length, .ref o_now, .ref o_trial, .ref o_diary, .int v_acts, .int v_next, .ref o_kept, .ref o_isKept, .ref o_knownPlace, .ref o_knownLetter, .int v_known, .long v_seed, .int v_wide, .int v_bits, .int v_parity, .int v_stops, .int v_idle, .int v_frames, .int v_failed, .int v_failedAt, .int v_margin, .ref o_letters, .ref o_starts, .int v_bestFrames, .ref o_bestLetters, .int v_alike, .int v_fitting, .ref o_deep, .ref o_worth, .int v_readLevel, .int v_readMany, .ref o_readTicks, .int v_part, .int v_ten])), (o_bestLetters, .inl (cI, 64, .inl v_bestLetters)), (o_deep, .inl (cI, 360, .inl v_deep)), (o_knownLetter, .inl (cI, 5, .inl v_knownLetter)), (o_knownPlace, .inl (cI, 5, .inl v_knownPlace)), (o_letters, .inl (cI, 64, .inl v_letters)), (o_now, .inl (cI, 361, .inl v_now)), (o_starts, .inl (cI, 64, .inl v_starts))] (fun (r : Int32) (u : Int32 × Int32 × Int32 × Int32 × Int32 × Int32 × Int32 × Int32 × Int32 × Int32 × Int32 × Int32 × (Nat → Int32) × (Nat → Int32) × (Nat → Int32) × (Nat → Int32)) => Q r u.1 u.2.1 u.2.2.1 u.2.2.2.1 u.2.2.2.2.1 u.2.2.2.2.2.1 u.2.2.2.2.2.2.1 u.2.2.2.2.2.2.2.1 u.2.2.2.2.2.2.2.2.1 u.2.2.2.2.2.2.2.2.2.1 u.2.2.2.2.2.2.2.2.2.2.1 u.2.2.2.2.2.2.2.2.2.2.2.1 u.2.2.2.2.2.2.2.2.2.2.2.2.1 u.2.2.2.2.2.2.2.2.2.2.2.2.2.1 u.2.2.2.2.2.2.2.2.2.2.2.2.2.2.1 u.2.2.2.2.2.2.2.2.2.2.2.2.2.2.2) (fun (u : Int32 × Int32 × Int32 × Int32 × Int32 × Int32 × Int32 × Int32 × Int32 × Int32 × Int32 × Int32 × (Nat → Int32) × (Nat → Int32) × (Nat → Int32) × (Nat → Int32)) => [(o, .inr (10, [.ref o_text, .int v_length, .ref o_now, .ref o_trial, .ref o_diary, .int v_acts, .int v_next, .ref o_kept, .ref o_isKept, .ref o_knownPlace, .ref o_knownLetter, .int v_known, .long v_seed, .int u.2.2.2.2.2.2.2.2.2.2.2.1, .int u.2.2.1, .int u.2.2.2.2.2.2.2.2.2.1, .int u.2.2.2.2.2.2.2.2.2.2.1, .int u.2.2.2.2.2.2.2.1, .int u.2.2.2.2.2.2.1, .int u.2.2.2.1, .int u.2.2.2.2.1, .int u.2.2.2.2.2.2.2.2.1, .ref o_letters, .ref o_starts, .int u.2.1, .ref o_bestLetters, .int u.1, .int u.2.2.2.2.2.1, .ref o_deep, .ref o_worth, .int v_readLevel, .int v_readMany, .ref o_readTicks, .int v_part, .int v_ten])), (o_bestLetters, .inl (cI, 64, .inl u.2.2.2.2.2.2.2.2.2.2.2.2.1)), (o_deep, .inl (cI, 360, .inl u.2.2.2.2.2.2.2.2.2.2.2.2.2.1)), (o_knownLetter, .inl (cI, 5, .inl v_knownLetter)), (o_knownPlace, .inl (cI, 5, .inl v_knownPlace)), (o_letters, .inl (cI, 64, .inl u.2.2.2.2.2.2.2.2.2.2.2.2.2.2.1)), (o_now, .inl (cI, 361, .inl v_now)), (o_starts, .inl (cI, 64, .inl u.2.2.2.2.2.2.2.2.2.2.2.2.2.2.2))]) := by
  refine CtI.of (S := Int32 × Int32 × Int32 × Int32 × Int32 × Int32 × Int32 × Int32 × Int32 × Int32 × Int32 × Int32 × (Nat → Int32) × (Nat → Int32) × (Nat → Int32) × (Nat → Int32)) (y := yX10_about) (Tc := wkX10_about) (rm := rmX10_about) (D := D) (tys := tys4 cI cJ cZ cW) (av := [.ref o, .int x1]) (wc := [(o, .inr (10, [.ref o_text, .int v_length, .ref o_now, .ref o_trial, .ref o_diary, .int v_acts, .int v_next, .ref o_kept, .ref o_isKept, .ref o_knownPlace, .ref o_knownLetter, .int v_known, .long v_seed, .int v_wide, .int v_bits, .int v_parity, .int v_stops, .int v_idle, .int v_frames, .int v_failed, .int v_failedAt, .int v_margin, .ref o_letters, .ref o_starts, .int v_bestFrames, .ref o_bestLetters, .int v_alike, .int v_fitting, .ref o_deep, .ref o_worth, .int v_readLevel, .int v_readMany, .ref o_readTicks, .int v_part, .int v_ten])), (o_bestLetters, .inl (cI, 64, .inl v_bestLetters)), (o_deep, .inl (cI, 360, .inl v_deep)), (o_knownLetter, .inl (cI, 5, .inl v_knownLetter)), (o_knownPlace, .inl (cI, 5, .inl v_knownPlace)), (o_letters, .inl (cI, 64, .inl v_letters)), (o_now, .inl (cI, 361, .inl v_now)), (o_starts, .inl (cI, 64, .inl v_starts))]) (post := (fun (r : Int32) (u : Int32 × Int32 × Int32 × Int32 × Int32 × Int32 × Int32 × Int32 × Int32 × Int32 × Int32 × Int32 × (Nat → Int32) × (Nat → Int32) × (Nat → Int32) × (Nat → Int32)) => Q r u.1 u.2.1 u.2.2.1 u.2.2.2.1 u.2.2.2.2.1 u.2.2.2.2.2.1 u.2.2.2.2.2.2.1 u.2.2.2.2.2.2.2.1 u.2.2.2.2.2.2.2.2.1 u.2.2.2.2.2.2.2.2.2.1 u.2.2.2.2.2.2.2.2.2.2.1 u.2.2.2.2.2.2.2.2.2.2.2.1 u.2.2.2.2.2.2.2.2.2.2.2.2.1 u.2.2.2.2.2.2.2.2.2.2.2.2.2.1 u.2.2.2.2.2.2.2.2.2.2.2.2.2.2.1 u.2.2.2.2.2.2.2.2.2.2.2.2.2.2.2)) (w1 := (fun (u : Int32 × Int32 × Int32 × Int32 × Int32 × Int32 × Int32 × Int32 × Int32 × Int32 × Int32 × Int32 × (Nat → Int32) × (Nat → Int32) × (Nat → Int32) × (Nat → Int32)) => [(o, .inr (10, [.ref o_text, .int v_length, .ref o_now, .ref o_trial, .ref o_diary, .int v_acts, .int v_next, .ref o_kept, .ref o_isKept, .ref o_knownPlace, .ref o_knownLetter, .int v_known, .long v_seed, .int u.2.2.2.2.2.2.2.2.2.2.2.1, .int u.2.2.1, .int u.2.2.2.2.2.2.2.2.2.1, .int u.2.2.2.2.2.2.2.2.2.2.1, .int u.2.2.2.2.2.2.2.1, .int u.2.2.2.2.2.2.1, .int u.2.2.2.1, .int u.2.2.2.2.1, .int u.2.2.2.2.2.2.2.2.1, .ref o_letters, .ref o_starts, .int u.2.1, .ref o_bestLetters, .int u.1, .int u.2.2.2.2.2.1, .ref o_deep, .ref o_worth, .int v_readLevel, .int v_readMany, .ref o_readTicks, .int v_part, .int v_ten])), (o_bestLetters, .inl (cI, 64, .inl u.2.2.2.2.2.2.2.2.2.2.2.2.1)), (o_deep, .inl (cI, 360, .inl u.2.2.2.2.2.2.2.2.2.2.2.2.2.1)), (o_knownLetter, .inl (cI, 5, .inl v_knownLetter)), (o_knownPlace, .inl (cI, 5, .inl v_knownPlace)), (o_letters, .inl (cI, 64, .inl u.2.2.2.2.2.2.2.2.2.2.2.2.2.2.1)), (o_now, .inl (cI, 361, .inl v_now)), (o_starts, .inl (cI, 64, .inl u.2.2.2.2.2.2.2.2.2.2.2.2.2.2.2))])) (cc := cX10_about) (maxL := 2) RX10 rfl (by decide +kernel) rfl rfl [(0, .ref o), (1, .int x1)] rfl ?_
  intro p e s m args below meth c A Qm C hret
  unfold wp_X10_about at h
  refine g_iload_n C 1 1 x1 dX10_about_0 rfl rfl ?_
  by_cases c76 : x1 = (0 : Int32)
  · have h := wp_t c76 h
    refine g_tableIn C (0) (59) 60 (by rw [c76]; rfl) dX10_about_1 (by decide) rfl (by decide) ?_
    refine g_aload_n C 0 0 o dX10_about_60 rfl rfl ?_
    refine g_get C 10 ix_10 0 _ rfl rfl 2 (by decide) wm_128 rfl (.ref o_now) rfl dX10_about_61 ?_
    refine g_sipush C (360 : Int32) dX10_about_64 rfl ?_
    refine g_iald C 6 0 cI 361 v_now rfl rfl (vp_in_dec rfl) dX10_about_67 ?_
    exact hret _ (v_alike, v_bestFrames, v_bits, v_failed, v_failedAt, v_fitting, v_frames, v_idle, v_margin, v_parity, v_stops, v_wide, v_bestLetters, v_deep, v_letters, v_starts) _ _ _ dX10_about_68 h rfl
  have h := wp_f c76 h
  by_cases c77 : x1 = (1 : Int32)
  · have h := wp_t c77 h
    refine g_tableIn C (1) (68) 69 (by rw [c77]; rfl) dX10_about_1 (by decide) rfl (by decide) ?_
    refine g_aload_n C 0 0 o dX10_about_69 rfl rfl ?_
    refine g_get C 10 ix_10 0 _ rfl rfl 2 (by decide) wm_128 rfl (.ref o_now) rfl dX10_about_70 ?_
    refine g_callSi0 (As := [.ref o_now]) (rest := []) C (c_X10_edges l D cI cJ cZ cW o_now v_now fu _ h) 1 gd_X10_172 rfl rfl rfl (by decide +kernel) ⟨Nat.le_of_ble_eq_true rfl, Nat.le_of_ble_eq_true rfl⟩ ⟨Nat.le_of_ble_eq_true rfl, Nat.le_of_ble_eq_true rfl⟩ rfl rfl (Nat.le_of_ble_eq_true rfl) [6] rfl rfl dX10_about_73 (fun r1 h => ?_)
    exact hret _ (v_alike, v_bestFrames, v_bits, v_failed, v_failedAt, v_fitting, v_frames, v_idle, v_margin, v_parity, v_stops, v_wide, v_bestLetters, v_deep, v_letters, v_starts) _ _ _ dX10_about_76 h rfl
  have h := wp_f c77 h
  by_cases c78 : x1 = (2 : Int32)
  · have h := wp_t c78 h
    refine g_tableIn C (2) (76) 77 (by rw [c78]; rfl) dX10_about_1 (by decide) rfl (by decide) ?_
    refine g_aload_n C 0 0 o dX10_about_77 rfl rfl ?_
    refine g_callVi (As := []) (rest := []) C (c_X10_fit l D cI cJ cZ cW o o_text o_now o_trial o_diary o_kept o_isKept o_knownPlace o_knownLetter o_letters o_starts o_bestLetters o_deep o_worth o_readTicks v_length v_acts v_next v_known v_seed v_wide v_bits v_parity v_stops v_idle v_frames v_failed v_failedAt v_margin v_bestFrames v_alike v_fitting v_readLevel v_readMany v_part v_ten v_bestLetters v_deep v_letters v_now v_starts fu _ h) 0 gd_X10_191 rfl rfl rfl (by decide +kernel) ⟨Nat.le_of_ble_eq_true rfl, Nat.le_of_ble_eq_true rfl⟩ ⟨Nat.le_of_ble_eq_true rfl, Nat.le_of_ble_eq_true rfl⟩ 10 0 rfl rfl rfl rfl (Nat.le_of_ble_eq_true rfl) [0, 1, 2, 5, 6, 7] [some 0, some 1, some 2, none, none, some 3, some 4, some 5] rfl rfl rfl dX10_about_78 (fun r17 u h => ?_)
    obtain ⟨z2, z3, z4, z5, z6, z7, z8, z9, z10, z11, z12, z13, z14, z15, z16⟩ := u
    refine ⟨[(o, .inr (10, [.ref o_text, .int v_length, .ref o_now, .ref o_trial, .ref o_diary, .int v_acts, .int v_next, .ref o_kept, .ref o_isKept, .ref o_knownPlace, .ref o_knownLetter, .int v_known, .long v_seed, .int z12, .int z3, .int z10, .int z11, .int z8, .int z7, .int z4, .int z5, .int z9, .ref o_letters, .ref o_starts, .int z2, .ref o_bestLetters, .int v_alike, .int z6, .ref o_deep, .ref o_worth, .int v_readLevel, .int v_readMany, .ref o_readTicks, .int v_part, .int v_ten])), (o_bestLetters, .inl (cI, 64, .inl z13)), (o_deep, .inl (cI, 360, .inl z14)), (o_knownLetter, .inl (cI, 5, .inl v_knownLetter)), (o_knownPlace, .inl (cI, 5, .inl v_knownPlace)), (o_letters, .inl (cI, 64, .inl z15)), (o_now, .inl (cI, 361, .inl v_now)), (o_starts, .inl (cI, 64, .inl z16))], rfl, rfl, rfl, ?_⟩
    exact hret _ (v_alike, z2, z3, z4, z5, z6, z7, z8, z9, z10, z11, z12, z13, z14, z15, z16) _ _ _ dX10_about_81 h rfl
  have h := wp_f c78 h
  by_cases c79 : x1 = (3 : Int32)
  · have h := wp_t c79 h
    refine g_tableIn C (3) (81) 82 (by rw [c79]; rfl) dX10_about_1 (by decide) rfl (by decide) ?_
    refine g_aload_n C 0 0 o dX10_about_82 rfl rfl ?_
    refine g_aload_n C 0 0 o dX10_about_83 rfl rfl ?_
    refine g_get C 10 ix_10 0 _ rfl rfl 2 (by decide) wm_128 rfl (.ref o_now) rfl dX10_about_84 ?_
    refine g_callVi (As := [.ref o_now]) (rest := []) C (c_X10_best l D cI cJ cZ cW o o_text o_now o_trial o_diary o_kept o_isKept o_knownPlace o_knownLetter o_letters o_starts o_bestLetters o_deep o_worth o_readTicks o_now v_length v_acts v_next v_known v_seed v_wide v_bits v_parity v_stops v_idle v_frames v_failed v_failedAt v_margin v_bestFrames v_alike v_fitting v_readLevel v_readMany v_part v_ten v_bestLetters v_deep v_letters v_starts v_now fu _ h) 1 gd_X10_165 rfl rfl rfl (by decide +kernel) ⟨Nat.le_of_ble_eq_true rfl, Nat.le_of_ble_eq_true rfl⟩ ⟨Nat.le_of_ble_eq_true rfl, Nat.le_of_ble_eq_true rfl⟩ 10 0 rfl rfl rfl rfl (Nat.le_of_ble_eq_true rfl) [0, 1, 2, 5, 7, 6] [some 0, some 1, some 2, none, none, some 3, some 5, some 4] rfl rfl rfl dX10_about_87 (fun r33 u h => ?_)
    obtain ⟨z18, z19, z20, z21, z22, z23, z24, z25, z26, z27, z28, z29, z30, z31, z32⟩ := u
    refine ⟨[(o, .inr (10, [.ref o_text, .int v_length, .ref o_now, .ref o_trial, .ref o_diary, .int v_acts, .int v_next, .ref o_kept, .ref o_isKept, .ref o_knownPlace, .ref o_knownLetter, .int v_known, .long v_seed, .int z28, .int z19, .int z26, .int z27, .int z24, .int z23, .int z20, .int z21, .int z25, .ref o_letters, .ref o_starts, .int z18, .ref o_bestLetters, .int v_alike, .int z22, .ref o_deep, .ref o_worth, .int v_readLevel, .int v_readMany, .ref o_readTicks, .int v_part, .int v_ten])), (o_bestLetters, .inl (cI, 64, .inl z29)), (o_deep, .inl (cI, 360, .inl z30)), (o_knownLetter, .inl (cI, 5, .inl v_knownLetter)), (o_knownPlace, .inl (cI, 5, .inl v_knownPlace)), (o_letters, .inl (cI, 64, .inl z31)), (o_now, .inl (cI, 361, .inl v_now)), (o_starts, .inl (cI, 64, .inl z32))], rfl, rfl, rfl, ?_⟩
    exact hret _ (v_alike, z18, z19, z20, z21, z22, z23, z24, z25, z26, z27, z28, z29, z30, z31, z32) _ _ _ dX10_about_90 h rfl
  have h := wp_f c79 h
  by_cases c80 : x1 = (4 : Int32)
  · have h := wp_t c80 h
    refine g_tableIn C (4) (90) 91 (by rw [c80]; rfl) dX10_about_1 (by decide) rfl (by decide) ?_
    refine g_aload_n C 0 0 o dX10_about_91 rfl rfl ?_
    refine g_callVi (As := []) (rest := []) C (c_X10_alikes l D cI cJ cZ cW o o_text o_now o_trial o_diary o_kept o_isKept o_knownPlace o_knownLetter o_letters o_starts o_bestLetters o_deep o_worth o_readTicks v_length v_acts v_next v_known v_seed v_wide v_bits v_parity v_stops v_idle v_frames v_failed v_failedAt v_margin v_bestFrames v_alike v_fitting v_readLevel v_readMany v_part v_ten v_bestLetters v_deep v_letters v_now v_starts fu _ h) 0 gd_X10_194 rfl rfl rfl (by decide +kernel) ⟨Nat.le_of_ble_eq_true rfl, Nat.le_of_ble_eq_true rfl⟩ ⟨Nat.le_of_ble_eq_true rfl, Nat.le_of_ble_eq_true rfl⟩ 10 0 rfl rfl rfl rfl (Nat.le_of_ble_eq_true rfl) [0, 1, 2, 5, 6, 7] [some 0, some 1, some 2, none, none, some 3, some 4, some 5] rfl rfl rfl dX10_about_92 (fun r50 u h => ?_)
    obtain ⟨z34, z35, z36, z37, z38, z39, z40, z41, z42, z43, z44, z45, z46, z47, z48, z49⟩ := u
    refine ⟨[(o, .inr (10, [.ref o_text, .int v_length, .ref o_now, .ref o_trial, .ref o_diary, .int v_acts, .int v_next, .ref o_kept, .ref o_isKept, .ref o_knownPlace, .ref o_knownLetter, .int v_known, .long v_seed, .int z45, .int z36, .int z43, .int z44, .int z41, .int z40, .int z37, .int z38, .int z42, .ref o_letters, .ref o_starts, .int z35, .ref o_bestLetters, .int z34, .int z39, .ref o_deep, .ref o_worth, .int v_readLevel, .int v_readMany, .ref o_readTicks, .int v_part, .int v_ten])), (o_bestLetters, .inl (cI, 64, .inl z46)), (o_deep, .inl (cI, 360, .inl z47)), (o_knownLetter, .inl (cI, 5, .inl v_knownLetter)), (o_knownPlace, .inl (cI, 5, .inl v_knownPlace)), (o_letters, .inl (cI, 64, .inl z48)), (o_now, .inl (cI, 361, .inl v_now)), (o_starts, .inl (cI, 64, .inl z49))], rfl, rfl, rfl, ?_⟩
    exact hret _ (z34, z35, z36, z37, z38, z39, z40, z41, z42, z43, z44, z45, z46, z47, z48, z49) _ _ _ dX10_about_95 h rfl
  have h := wp_f c80 h
  by_cases c81 : x1 = (5 : Int32)
  · have h := wp_t c81 h
    refine g_tableIn C (5) (95) 96 (by rw [c81]; rfl) dX10_about_1 (by decide) rfl (by decide) ?_
    refine g_aload_n C 0 0 o dX10_about_96 rfl rfl ?_
    refine g_callVi0 (As := []) (rest := []) C (c_X10_width l D cI cJ cZ cW o o_text o_now o_trial o_diary o_kept o_isKept o_knownPlace o_knownLetter o_letters o_starts o_bestLetters o_deep o_worth o_readTicks v_length v_acts v_next v_known v_seed v_wide v_bits v_parity v_stops v_idle v_frames v_failed v_failedAt v_margin v_bestFrames v_alike v_fitting v_readLevel v_readMany v_part v_ten v_now fu _ h) 0 gd_X10_197 rfl rfl rfl (by decide +kernel) ⟨Nat.le_of_ble_eq_true rfl, Nat.le_of_ble_eq_true rfl⟩ ⟨Nat.le_of_ble_eq_true rfl, Nat.le_of_ble_eq_true rfl⟩ 10 0 rfl rfl rfl rfl (Nat.le_of_ble_eq_true rfl) [0, 6] rfl rfl dX10_about_97 (fun r51 h => ?_)
    exact hret _ (v_alike, v_bestFrames, v_bits, v_failed, v_failedAt, v_fitting, v_frames, v_idle, v_margin, v_parity, v_stops, v_wide, v_bestLetters, v_deep, v_letters, v_starts) _ _ _ dX10_about_100 h rfl
  have h := wp_f c81 h
  by_cases c82 : x1 = (6 : Int32)
  · have h := wp_t c82 h
    refine g_tableIn C (6) (100) 101 (by rw [c82]; rfl) dX10_about_1 (by decide) rfl (by decide) ?_
    refine g_aload_n C 0 0 o dX10_about_101 rfl rfl ?_
    refine g_bipush C (31 : Int32) dX10_about_102 rfl ?_
    refine g_iconst C (0 : Int32) dX10_about_104 rfl ?_
    refine g_callVi (As := [.int (31 : Int32), .int (0 : Int32)]) (rest := []) C (c_X10_left l D cI cJ cZ cW o o_text o_now o_trial o_diary o_kept o_isKept o_knownPlace o_knownLetter o_letters o_starts o_bestLetters o_deep o_worth o_readTicks v_length v_acts v_next v_known v_seed v_wide v_bits v_parity v_stops v_idle v_frames v_failed v_failedAt v_margin v_bestFrames v_alike v_fitting v_readLevel v_readMany v_part v_ten v_deep v_knownLetter v_knownPlace v_letters v_now v_starts (31 : Int32) (0 : Int32) fu _ h) 2 gd_X10_200 rfl rfl rfl (by decide +kernel) ⟨Nat.le_of_ble_eq_true rfl, Nat.le_of_ble_eq_true rfl⟩ ⟨Nat.le_of_ble_eq_true rfl, Nat.le_of_ble_eq_true rfl⟩ 10 0 rfl rfl rfl rfl (Nat.le_of_ble_eq_true rfl) [0, 2, 3, 4, 5, 6, 7] [some 0, none, some 1, some 2, some 3, some 4, some 5, some 6] rfl rfl rfl dX10_about_105 (fun r63 u h => ?_)
    obtain ⟨z52, z53, z54, z55, z56, z57, z58, z59, z60, z61, z62⟩ := u
    refine ⟨[(o, .inr (10, [.ref o_text, .int v_length, .ref o_now, .ref o_trial, .ref o_diary, .int v_acts, .int v_next, .ref o_kept, .ref o_isKept, .ref o_knownPlace, .ref o_knownLetter, .int v_known, .long v_seed, .int z60, .int z52, .int z58, .int z59, .int z56, .int z55, .int z53, .int z54, .int z57, .ref o_letters, .ref o_starts, .int v_bestFrames, .ref o_bestLetters, .int v_alike, .int v_fitting, .ref o_deep, .ref o_worth, .int v_readLevel, .int v_readMany, .ref o_readTicks, .int v_part, .int v_ten])), (o_bestLetters, .inl (cI, 64, .inl v_bestLetters)), (o_deep, .inl (cI, 360, .inl v_deep)), (o_knownLetter, .inl (cI, 5, .inl v_knownLetter)), (o_knownPlace, .inl (cI, 5, .inl v_knownPlace)), (o_letters, .inl (cI, 64, .inl z61)), (o_now, .inl (cI, 361, .inl v_now)), (o_starts, .inl (cI, 64, .inl z62))], rfl, rfl, rfl, ?_⟩
    exact hret _ (v_alike, v_bestFrames, z52, z53, z54, v_fitting, z55, z56, z57, z58, z59, z60, v_bestLetters, v_deep, z61, z62) _ _ _ dX10_about_108 h rfl
  have h := wp_f c82 h
  by_cases c83 : x1 = (7 : Int32)
  · have h := wp_t c83 h
    refine g_tableIn C (7) (108) 109 (by rw [c83]; rfl) dX10_about_1 (by decide) rfl (by decide) ?_
    refine g_aload_n C 0 0 o dX10_about_109 rfl rfl ?_
    refine g_bipush C (31 : Int32) dX10_about_110 rfl ?_
    refine g_iconst C (1 : Int32) dX10_about_112 rfl ?_
    refine g_callVi (As := [.int (31 : Int32), .int (1 : Int32)]) (rest := []) C (c_X10_left l D cI cJ cZ cW o o_text o_now o_trial o_diary o_kept o_isKept o_knownPlace o_knownLetter o_letters o_starts o_bestLetters o_deep o_worth o_readTicks v_length v_acts v_next v_known v_seed v_wide v_bits v_parity v_stops v_idle v_frames v_failed v_failedAt v_margin v_bestFrames v_alike v_fitting v_readLevel v_readMany v_part v_ten v_deep v_knownLetter v_knownPlace v_letters v_now v_starts (31 : Int32) (1 : Int32) fu _ h) 2 gd_X10_200 rfl rfl rfl (by decide +kernel) ⟨Nat.le_of_ble_eq_true rfl, Nat.le_of_ble_eq_true rfl⟩ ⟨Nat.le_of_ble_eq_true rfl, Nat.le_of_ble_eq_true rfl⟩ 10 0 rfl rfl rfl rfl (Nat.le_of_ble_eq_true rfl) [0, 2, 3, 4, 5, 6, 7] [some 0, none, some 1, some 2, some 3, some 4, some 5, some 6] rfl rfl rfl dX10_about_113 (fun r75 u h => ?_)
    obtain ⟨z64, z65, z66, z67, z68, z69, z70, z71, z72, z73, z74⟩ := u
    refine ⟨[(o, .inr (10, [.ref o_text, .int v_length, .ref o_now, .ref o_trial, .ref o_diary, .int v_acts, .int v_next, .ref o_kept, .ref o_isKept, .ref o_knownPlace, .ref o_knownLetter, .int v_known, .long v_seed, .int z72, .int z64, .int z70, .int z71, .int z68, .int z67, .int z65, .int z66, .int z69, .ref o_letters, .ref o_starts, .int v_bestFrames, .ref o_bestLetters, .int v_alike, .int v_fitting, .ref o_deep, .ref o_worth, .int v_readLevel, .int v_readMany, .ref o_readTicks, .int v_part, .int v_ten])), (o_bestLetters, .inl (cI, 64, .inl v_bestLetters)), (o_deep, .inl (cI, 360, .inl v_deep)), (o_knownLetter, .inl (cI, 5, .inl v_knownLetter)), (o_knownPlace, .inl (cI, 5, .inl v_knownPlace)), (o_letters, .inl (cI, 64, .inl z73)), (o_now, .inl (cI, 361, .inl v_now)), (o_starts, .inl (cI, 64, .inl z74))], rfl, rfl, rfl, ?_⟩
    exact hret _ (v_alike, v_bestFrames, z64, z65, z66, v_fitting, z67, z68, z69, z70, z71, z72, v_bestLetters, v_deep, z73, z74) _ _ _ dX10_about_116 h rfl
  have h := wp_f c83 h
  by_cases c84 : x1 = (8 : Int32)
  · have h := wp_t c84 h
    refine g_tableIn C (8) (116) 117 (by rw [c84]; rfl) dX10_about_1 (by decide) rfl (by decide) ?_
    refine g_aload_n C 0 0 o dX10_about_117 rfl rfl ?_
    refine g_get C 10 ix_10 0 _ rfl rfl 5 (by decide) wm_247 rfl (.int v_acts) rfl dX10_about_118 ?_
    exact hret _ (v_alike, v_bestFrames, v_bits, v_failed, v_failedAt, v_fitting, v_frames, v_idle, v_margin, v_parity, v_stops, v_wide, v_bestLetters, v_deep, v_letters, v_starts) _ _ _ dX10_about_121 h rfl
  have h := wp_f c84 h
  by_cases c85 : x1 = (9 : Int32)
  · have h := wp_t c85 h
    refine g_tableIn C (9) (121) 122 (by rw [c85]; rfl) dX10_about_1 (by decide) rfl (by decide) ?_
    refine g_aload_n C 0 0 o dX10_about_122 rfl rfl ?_
    refine g_get C 10 ix_10 0 _ rfl rfl 11 (by decide) wm_381 rfl (.int v_known) rfl dX10_about_123 ?_
    exact hret _ (v_alike, v_bestFrames, v_bits, v_failed, v_failedAt, v_fitting, v_frames, v_idle, v_margin, v_parity, v_stops, v_wide, v_bestLetters, v_deep, v_letters, v_starts) _ _ _ dX10_about_126 h rfl
  have h := wp_f c85 h
  by_cases c86 : x1 = (10 : Int32)
  · have h := wp_t c86 h
    refine g_tableIn C (10) (126) 127 (by rw [c86]; rfl) dX10_about_1 (by decide) rfl (by decide) ?_
    refine g_aload_n C 0 0 o dX10_about_127 rfl rfl ?_
    refine g_get C 10 ix_10 0 _ rfl rfl 1 (by decide) wm_162 rfl (.int v_length) rfl dX10_about_128 ?_
    exact hret _ (v_alike, v_bestFrames, v_bits, v_failed, v_failedAt, v_fitting, v_frames, v_idle, v_margin, v_parity, v_stops, v_wide, v_bestLetters, v_deep, v_letters, v_starts) _ _ _ dX10_about_131 h rfl
  have h := wp_f c86 h
  refine g_tableOut C 132 dX10_about_1 (sw_out (0) (10) (by decide) (fun v h1 h2 => ?_)) (by decide) ?_
  · rcases (show v = 0 ∨ v = 1 ∨ v = 2 ∨ v = 3 ∨ v = 4 ∨ v = 5 ∨ v = 6 ∨ v = 7 ∨ v = 8 ∨ v = 9 ∨ v = 10 by omega) with rfl | rfl | rfl | rfl | rfl | rfl | rfl | rfl | rfl | rfl | rfl
    · exact fun hq => c76 (Int32.toInt_inj.mp (hq.trans rfl))
    · exact fun hq => c77 (Int32.toInt_inj.mp (hq.trans rfl))
    · exact fun hq => c78 (Int32.toInt_inj.mp (hq.trans rfl))
    · exact fun hq => c79 (Int32.toInt_inj.mp (hq.trans rfl))
    · exact fun hq => c80 (Int32.toInt_inj.mp (hq.trans rfl))
    · exact fun hq => c81 (Int32.toInt_inj.mp (hq.trans rfl))
    · exact fun hq => c82 (Int32.toInt_inj.mp (hq.trans rfl))
    · exact fun hq => c83 (Int32.toInt_inj.mp (hq.trans rfl))
    · exact fun hq => c84 (Int32.toInt_inj.mp (hq.trans rfl))
    · exact fun hq => c85 (Int32.toInt_inj.mp (hq.trans rfl))
    · exact fun hq => c86 (Int32.toInt_inj.mp (hq.trans rfl))
  refine g_bipush C (-2 : Int32) dX10_about_132 rfl ?_
  exact hret _ (v_alike, v_bestFrames, v_bits, v_failed, v_failedAt, v_fitting, v_frames, v_idle, v_margin, v_parity, v_stops, v_wide, v_bestLetters, v_deep, v_letters, v_starts) _ _ _ dX10_about_134 h rfl
abbrev rmX10_level : Room := { frames := 2, cells := 0, slots := 0, locals := 46 }
def wp_X10_level (fu : Nat) (v_now : (Nat → Int32)) (x1 : Int32) (Q : Int32 → Prop) : Prop := wp_X10_isTick fu v_now x1 (fun (r1 : Int32) => (if r1 = 0 then Q (-1 : Int32) else (vp_in x1 361 ∧ Q (v_now (ix x1)))))
set_option maxHeartbeats 4000000 in
set_option maxRecDepth 100000 in
theorem c_X10_level (l : Launch) (D : va_G) (cI cJ cZ cW : ClassId) (o o_text o_now o_trial o_diary o_kept o_isKept o_knownPlace o_knownLetter o_letters o_starts o_bestLetters o_deep o_worth o_readTicks : Nat) (v_length : Int32) (v_acts : Int32) (v_next : Int32) (v_known : Int32) (v_seed : Int64) (v_wide : Int32) (v_bits : Int32) (v_parity : Int32) (v_stops : Int32) (v_idle : Int32) (v_frames : Int32) (v_failed : Int32) (v_failedAt : Int32) (v_margin : Int32) (v_bestFrames : Int32) (v_alike : Int32) (v_fitting : Int32) (v_readLevel : Int32) (v_readMany : Int32) (v_part : Int32) (v_ten : Int32) (v_now : (Nat → Int32)) (x1 : Int32) (fu : Nat) (Q : Int32 → Prop) (h : wp_X10_level fu v_now x1 Q) : CtI l yX10_level wkX10_level rmX10_level D (tys4 cI cJ cZ cW) [.ref o, .int x1] [(o, .inr (10, [.ref o_text, .int v_length, .ref o_now, .ref o_trial, .ref o_diary, .int v_acts, .int v_next, .ref o_kept, .ref o_isKept, .ref o_knownPlace, .ref o_knownLetter, .int v_known, .long v_seed, .int v_wide, .int v_bits, .int v_parity, .int v_stops, .int v_idle, .int v_frames, .int v_failed, .int v_failedAt, .int v_margin, .ref o_letters, .ref o_starts, .int v_bestFrames, .ref o_bestLetters, .int v_alike, .int v_fitting, .ref o_deep, .ref o_worth, .int v_readLevel, .int v_readMany, .ref o_readTicks, .int v_part, .int v_ten])), (o_now, .inl (cI, 361, .inl v_now))] (fun (r : Int32) (u : Unit) => Q r ) (fun (_ : Unit) => [(o, .inr (10, [.ref o_text, .int v_length, .ref o_now, .ref o_trial, .ref o_diary, .int v_acts, .int v_next, .ref o_kept, .ref o_isKept, .ref o_knownPlace, .ref o_knownLetter, .int v_known, .long v_seed, .int v_wide, .int v_bits, .int v_parity, .int v_stops, .int v_idle, .int v_frames, .int v_failed, .int v_failedAt, .int v_margin, .ref o_letters, .ref o_starts, .int v_bestFrames, .ref o_bestLetters, .int v_alike, .int v_fitting, .ref o_deep, .ref o_worth, .int v_readLevel, .int v_readMany, .ref o_readTicks, .int v_part, .int v_ten])), (o_now, .inl (cI, 361, .inl v_now))]) := by
  refine CtI.of (S := Unit) (y := yX10_level) (Tc := wkX10_level) (rm := rmX10_level) (D := D) (tys := tys4 cI cJ cZ cW) (av := [.ref o, .int x1]) (wc := [(o, .inr (10, [.ref o_text, .int v_length, .ref o_now, .ref o_trial, .ref o_diary, .int v_acts, .int v_next, .ref o_kept, .ref o_isKept, .ref o_knownPlace, .ref o_knownLetter, .int v_known, .long v_seed, .int v_wide, .int v_bits, .int v_parity, .int v_stops, .int v_idle, .int v_frames, .int v_failed, .int v_failedAt, .int v_margin, .ref o_letters, .ref o_starts, .int v_bestFrames, .ref o_bestLetters, .int v_alike, .int v_fitting, .ref o_deep, .ref o_worth, .int v_readLevel, .int v_readMany, .ref o_readTicks, .int v_part, .int v_ten])), (o_now, .inl (cI, 361, .inl v_now))]) (post := (fun (r : Int32) (u : Unit) => Q r )) (w1 := (fun (_ : Unit) => [(o, .inr (10, [.ref o_text, .int v_length, .ref o_now, .ref o_trial, .ref o_diary, .int v_acts, .int v_next, .ref o_kept, .ref o_isKept, .ref o_knownPlace, .ref o_knownLetter, .int v_known, .long v_seed, .int v_wide, .int v_bits, .int v_parity, .int v_stops, .int v_idle, .int v_frames, .int v_failed, .int v_failedAt, .int v_margin, .ref o_letters, .ref o_starts, .int v_bestFrames, .ref o_bestLetters, .int v_alike, .int v_fitting, .ref o_deep, .ref o_worth, .int v_readLevel, .int v_readMany, .ref o_readTicks, .int v_part, .int v_ten])), (o_now, .inl (cI, 361, .inl v_now))])) (cc := cX10_level) (maxL := 2) RX10 rfl (by decide +kernel) rfl rfl [(0, .ref o), (1, .int x1)] rfl ?_
  intro p e s m args below meth c A Qm C hret
  unfold wp_X10_level at h
  refine g_aload_n C 0 0 o dX10_level_0 rfl rfl ?_
  refine g_get C 10 ix_10 0 _ rfl rfl 2 (by decide) wm_128 rfl (.ref o_now) rfl dX10_level_1 ?_
  refine g_iload_n C 1 1 x1 dX10_level_4 rfl rfl ?_
  refine g_callSi0 (As := [.ref o_now, .int x1]) (rest := []) C (c_X10_isTick l D cI cJ cZ cW o_now v_now x1 fu _ h) 2 gd_X10_117 rfl rfl rfl (by decide +kernel) ⟨Nat.le_of_ble_eq_true rfl, Nat.le_of_ble_eq_true rfl⟩ ⟨Nat.le_of_ble_eq_true rfl, Nat.le_of_ble_eq_true rfl⟩ rfl rfl (Nat.le_of_ble_eq_true rfl) [1] rfl rfl dX10_level_5 (fun r1 h => ?_)
  obtain ⟨hzr1, h⟩ := h
  refine g_if_eq C 20 dX10_level_8 (by decide) (fun c2 => ?_) (fun c2 => ?_)
  · have h := wp_t c2 h
    refine g_iconst C (-1 : Int32) dX10_level_20 rfl ?_
    exact hret _ () _ _ _ dX10_level_21 h rfl
  have h := wp_f c2 h
  refine g_aload_n C 0 0 o dX10_level_11 rfl rfl ?_
  refine g_get C 10 ix_10 0 _ rfl rfl 2 (by decide) wm_128 rfl (.ref o_now) rfl dX10_level_12 ?_
  refine g_iload_n C 1 1 x1 dX10_level_15 rfl rfl ?_
  obtain ⟨hi3, h⟩ := h
  refine g_iald C 1 0 cI 361 v_now rfl rfl hi3 dX10_level_16 ?_
  refine g_goto C 21 dX10_level_17 (by decide) ?_
  exact hret _ () _ _ _ dX10_level_21 h rfl
abbrev rmX10_run : Room := { frames := 1, cells := 0, slots := 0, locals := 24 }
def wX10_run_13 (fu : Nat) (v_now : (Nat → Int32)) (x1 : Int32) (Q : Int32 → Prop) (k0 : Int32) : Prop := (if k0 ≤ 0 then Q (-9 : Int32) else Q k0)
def wp_X10_run (fu : Nat) (v_now : (Nat → Int32)) (x1 : Int32) (Q : Int32 → Prop) : Prop := (if x1 < 0 then wX10_run_13 fu v_now x1 Q (0 : Int32) else wp_X10_runOf fu v_now x1 (fun (r2 : Int32) => wX10_run_13 fu v_now x1 Q r2))
set_option maxHeartbeats 4000000 in
set_option maxRecDepth 100000 in
theorem c_X10_run (l : Launch) (D : va_G) (cI cJ cZ cW : ClassId) (o o_text o_now o_trial o_diary o_kept o_isKept o_knownPlace o_knownLetter o_letters o_starts o_bestLetters o_deep o_worth o_readTicks : Nat) (v_length : Int32) (v_acts : Int32) (v_next : Int32) (v_known : Int32) (v_seed : Int64) (v_wide : Int32) (v_bits : Int32) (v_parity : Int32) (v_stops : Int32) (v_idle : Int32) (v_frames : Int32) (v_failed : Int32) (v_failedAt : Int32) (v_margin : Int32) (v_bestFrames : Int32) (v_alike : Int32) (v_fitting : Int32) (v_readLevel : Int32) (v_readMany : Int32) (v_part : Int32) (v_ten : Int32) (v_now : (Nat → Int32)) (x1 : Int32) (fu : Nat) (Q : Int32 → Prop) (h : wp_X10_run fu v_now x1 Q) : CtI l yX10_run wkX10_run rmX10_run D (tys4 cI cJ cZ cW) [.ref o, .int x1] [(o, .inr (10, [.ref o_text, .int v_length, .ref o_now, .ref o_trial, .ref o_diary, .int v_acts, .int v_next, .ref o_kept, .ref o_isKept, .ref o_knownPlace, .ref o_knownLetter, .int v_known, .long v_seed, .int v_wide, .int v_bits, .int v_parity, .int v_stops, .int v_idle, .int v_frames, .int v_failed, .int v_failedAt, .int v_margin, .ref o_letters, .ref o_starts, .int v_bestFrames, .ref o_bestLetters, .int v_alike, .int v_fitting, .ref o_deep, .ref o_worth, .int v_readLevel, .int v_readMany, .ref o_readTicks, .int v_part, .int v_ten])), (o_now, .inl (cI, 361, .inl v_now))] (fun (r : Int32) (u : Unit) => Q r ) (fun (_ : Unit) => [(o, .inr (10, [.ref o_text, .int v_length, .ref o_now, .ref o_trial, .ref o_diary, .int v_acts, .int v_next, .ref o_kept, .ref o_isKept, .ref o_knownPlace, .ref o_knownLetter, .int v_known, .long v_seed, .int v_wide, .int v_bits, .int v_parity, .int v_stops, .int v_idle, .int v_frames, .int v_failed, .int v_failedAt, .int v_margin, .ref o_letters, .ref o_starts, .int v_bestFrames, .ref o_bestLetters, .int v_alike, .int v_fitting, .ref o_deep, .ref o_worth, .int v_readLevel, .int v_readMany, .ref o_readTicks, .int v_part, .int v_ten])), (o_now, .inl (cI, 361, .inl v_now))]) := by
  refine CtI.of (S := Unit) (y := yX10_run) (Tc := wkX10_run) (rm := rmX10_run) (D := D) (tys := tys4 cI cJ cZ cW) (av := [.ref o, .int x1]) (wc := [(o, .inr (10, [.ref o_text, .int v_length, .ref o_now, .ref o_trial, .ref o_diary, .int v_acts, .int v_next, .ref o_kept, .ref o_isKept, .ref o_knownPlace, .ref o_knownLetter, .int v_known, .long v_seed, .int v_wide, .int v_bits, .int v_parity, .int v_stops, .int v_idle, .int v_frames, .int v_failed, .int v_failedAt, .int v_margin, .ref o_letters, .ref o_starts, .int v_bestFrames, .ref o_bestLetters, .int v_alike, .int v_fitting, .ref o_deep, .ref o_worth, .int v_readLevel, .int v_readMany, .ref o_readTicks, .int v_part, .int v_ten])), (o_now, .inl (cI, 361, .inl v_now))]) (post := (fun (r : Int32) (u : Unit) => Q r )) (w1 := (fun (_ : Unit) => [(o, .inr (10, [.ref o_text, .int v_length, .ref o_now, .ref o_trial, .ref o_diary, .int v_acts, .int v_next, .ref o_kept, .ref o_isKept, .ref o_knownPlace, .ref o_knownLetter, .int v_known, .long v_seed, .int v_wide, .int v_bits, .int v_parity, .int v_stops, .int v_idle, .int v_frames, .int v_failed, .int v_failedAt, .int v_margin, .ref o_letters, .ref o_starts, .int v_bestFrames, .ref o_bestLetters, .int v_alike, .int v_fitting, .ref o_deep, .ref o_worth, .int v_readLevel, .int v_readMany, .ref o_readTicks, .int v_part, .int v_ten])), (o_now, .inl (cI, 361, .inl v_now))])) (cc := cX10_run) (maxL := 3) RX10 rfl (by decide +kernel) rfl rfl [(0, .ref o), (1, .int x1)] rfl ?_
  intro p e s m args below meth c A Qm C hret
  have H13 : ∀ (k0 : Int32), wX10_run_13 fu v_now x1 Q k0 → G p l e rmX10_run s m args below meth c D A 3 0 0 Qm [(o, .inr (10, [.ref o_text, .int v_length, .ref o_now, .ref o_trial, .ref o_diary, .int v_acts, .int v_next, .ref o_kept, .ref o_isKept, .ref o_knownPlace, .ref o_knownLetter, .int v_known, .long v_seed, .int v_wide, .int v_bits, .int v_parity, .int v_stops, .int v_idle, .int v_frames, .int v_failed, .int v_failedAt, .int v_margin, .ref o_letters, .ref o_starts, .int v_bestFrames, .ref o_bestLetters, .int v_alike, .int v_fitting, .ref o_deep, .ref o_worth, .int v_readLevel, .int v_readMany, .ref o_readTicks, .int v_part, .int v_ten])), (o_now, .inl (cI, 361, .inl v_now))] [] 13 [.int k0] := by
    intro k0 h
    unfold wX10_run_13 at h
    refine g_istore_n C [(2, .int k0)] dX10_run_13 rfl (by decide) rfl ?_
    refine g_iload_n C 2 0 k0 dX10_run_14 rfl rfl ?_
    refine g_if_le C 22 dX10_run_15 (by decide) (fun c3 => ?_) (fun c3 => ?_)
    · have h := wp_t c3 h
      refine g_bipush C (-9 : Int32) dX10_run_22 rfl ?_
      exact hret _ () _ _ _ dX10_run_24 h rfl
    have h := wp_f c3 h
    refine g_iload_n C 2 0 k0 dX10_run_18 rfl rfl ?_
    refine g_goto C 24 dX10_run_19 (by decide) ?_
    exact hret _ () _ _ _ dX10_run_24 h rfl
  unfold wp_X10_run at h
  refine g_iload_n C 1 1 x1 dX10_run_0 rfl rfl ?_
  refine g_if_lt C 12 dX10_run_1 (by decide) (fun c1 => ?_) (fun c1 => ?_)
  · have h := wp_t c1 h
    refine g_iconst C (0 : Int32) dX10_run_12 rfl ?_
    refine g_lv [] rfl ?_
    exact H13  (0 : Int32) h
  have h := wp_f c1 h
  refine g_aload_n C 0 0 o dX10_run_4 rfl rfl ?_
  refine g_iload_n C 1 1 x1 dX10_run_5 rfl rfl ?_
  refine g_callVi0 (As := [.int x1]) (rest := []) C (c_X10_runOf l D cI cJ cZ cW o o_text o_now o_trial o_diary o_kept o_isKept o_knownPlace o_knownLetter o_letters o_starts o_bestLetters o_deep o_worth o_readTicks v_length v_acts v_next v_known v_seed v_wide v_bits v_parity v_stops v_idle v_frames v_failed v_failedAt v_margin v_bestFrames v_alike v_fitting v_readLevel v_readMany v_part v_ten v_now x1 fu _ h) 1 gd_X10_175 rfl rfl rfl (by decide +kernel) ⟨Nat.le_of_ble_eq_true rfl, Nat.le_of_ble_eq_true rfl⟩ ⟨Nat.le_of_ble_eq_true rfl, Nat.le_of_ble_eq_true rfl⟩ 10 0 rfl rfl rfl rfl (Nat.le_of_ble_eq_true rfl) [0, 1] rfl rfl dX10_run_6 (fun r2 h => ?_)
  refine g_goto C 13 dX10_run_9 (by decide) ?_
  refine g_lv [] rfl ?_
  exact H13  r2 h
abbrev rmX10_off : Room := { frames := 2, cells := 0, slots := 0, locals := 48 }
def wp_X10_off (fu : Nat) (v_now : (Nat → Int32)) (x1 : Int32) (Q : Int32 → Prop) : Prop := wp_X10_in fu (Int32.toInt64 x1) (1 : Int64) (16 : Int64) (fun (r1 : Int32) => (if r1 = 0 then Q (-2 : Int32) else wp_X10_offBy fu v_now x1 (fun (r3 : Int32) => Q r3)))
set_option maxHeartbeats 4000000 in
set_option maxRecDepth 100000 in
theorem c_X10_off (l : Launch) (D : va_G) (cI cJ cZ cW : ClassId) (o o_text o_now o_trial o_diary o_kept o_isKept o_knownPlace o_knownLetter o_letters o_starts o_bestLetters o_deep o_worth o_readTicks : Nat) (v_length : Int32) (v_acts : Int32) (v_next : Int32) (v_known : Int32) (v_seed : Int64) (v_wide : Int32) (v_bits : Int32) (v_parity : Int32) (v_stops : Int32) (v_idle : Int32) (v_frames : Int32) (v_failed : Int32) (v_failedAt : Int32) (v_margin : Int32) (v_bestFrames : Int32) (v_alike : Int32) (v_fitting : Int32) (v_readLevel : Int32) (v_readMany : Int32) (v_part : Int32) (v_ten : Int32) (v_now : (Nat → Int32)) (x1 : Int32) (fu : Nat) (Q : Int32 → Prop) (h : wp_X10_off fu v_now x1 Q) : CtI l yX10_off wkX10_off rmX10_off D (tys4 cI cJ cZ cW) [.ref o, .int x1] [(o, .inr (10, [.ref o_text, .int v_length, .ref o_now, .ref o_trial, .ref o_diary, .int v_acts, .int v_next, .ref o_kept, .ref o_isKept, .ref o_knownPlace, .ref o_knownLetter, .int v_known, .long v_seed, .int v_wide, .int v_bits, .int v_parity, .int v_stops, .int v_idle, .int v_frames, .int v_failed, .int v_failedAt, .int v_margin, .ref o_letters, .ref o_starts, .int v_bestFrames, .ref o_bestLetters, .int v_alike, .int v_fitting, .ref o_deep, .ref o_worth, .int v_readLevel, .int v_readMany, .ref o_readTicks, .int v_part, .int v_ten])), (o_now, .inl (cI, 361, .inl v_now))] (fun (r : Int32) (u : Unit) => Q r ) (fun (_ : Unit) => [(o, .inr (10, [.ref o_text, .int v_length, .ref o_now, .ref o_trial, .ref o_diary, .int v_acts, .int v_next, .ref o_kept, .ref o_isKept, .ref o_knownPlace, .ref o_knownLetter, .int v_known, .long v_seed, .int v_wide, .int v_bits, .int v_parity, .int v_stops, .int v_idle, .int v_frames, .int v_failed, .int v_failedAt, .int v_margin, .ref o_letters, .ref o_starts, .int v_bestFrames, .ref o_bestLetters, .int v_alike, .int v_fitting, .ref o_deep, .ref o_worth, .int v_readLevel, .int v_readMany, .ref o_readTicks, .int v_part, .int v_ten])), (o_now, .inl (cI, 361, .inl v_now))]) := by
  refine CtI.of (S := Unit) (y := yX10_off) (Tc := wkX10_off) (rm := rmX10_off) (D := D) (tys := tys4 cI cJ cZ cW) (av := [.ref o, .int x1]) (wc := [(o, .inr (10, [.ref o_text, .int v_length, .ref o_now, .ref o_trial, .ref o_diary, .int v_acts, .int v_next, .ref o_kept, .ref o_isKept, .ref o_knownPlace, .ref o_knownLetter, .int v_known, .long v_seed, .int v_wide, .int v_bits, .int v_parity, .int v_stops, .int v_idle, .int v_frames, .int v_failed, .int v_failedAt, .int v_margin, .ref o_letters, .ref o_starts, .int v_bestFrames, .ref o_bestLetters, .int v_alike, .int v_fitting, .ref o_deep, .ref o_worth, .int v_readLevel, .int v_readMany, .ref o_readTicks, .int v_part, .int v_ten])), (o_now, .inl (cI, 361, .inl v_now))]) (post := (fun (r : Int32) (u : Unit) => Q r )) (w1 := (fun (_ : Unit) => [(o, .inr (10, [.ref o_text, .int v_length, .ref o_now, .ref o_trial, .ref o_diary, .int v_acts, .int v_next, .ref o_kept, .ref o_isKept, .ref o_knownPlace, .ref o_knownLetter, .int v_known, .long v_seed, .int v_wide, .int v_bits, .int v_parity, .int v_stops, .int v_idle, .int v_frames, .int v_failed, .int v_failedAt, .int v_margin, .ref o_letters, .ref o_starts, .int v_bestFrames, .ref o_bestLetters, .int v_alike, .int v_fitting, .ref o_deep, .ref o_worth, .int v_readLevel, .int v_readMany, .ref o_readTicks, .int v_part, .int v_ten])), (o_now, .inl (cI, 361, .inl v_now))])) (cc := cX10_off) (maxL := 2) RX10 rfl (by decide +kernel) rfl rfl [(0, .ref o), (1, .int x1)] rfl ?_
  intro p e s m args below meth c A Qm C hret
  unfold wp_X10_off at h
  refine g_iload_n C 1 1 x1 dX10_off_0 rfl rfl ?_
  refine g_i2l C dX10_off_1 ?_
  refine g_lconst C (1 : Int64) dX10_off_2 rfl ?_
  refine g_ldc2 C (16 : Int64) wm_413 dX10_off_3 ?_
  refine g_callSi0 (As := [.long (Int32.toInt64 x1), .long (1 : Int64), .long (16 : Int64)]) (rest := []) C (c_X10_in l D cI cJ cZ cW (Int32.toInt64 x1) (1 : Int64) (16 : Int64) fu _ h) 3 gd_X10_53 rfl rfl rfl (by decide +kernel) ⟨Nat.le_of_ble_eq_true rfl, Nat.le_of_ble_eq_true rfl⟩ ⟨Nat.le_of_ble_eq_true rfl, Nat.le_of_ble_eq_true rfl⟩ rfl rfl (Nat.le_of_ble_eq_true rfl) [] rfl rfl dX10_off_6 (fun r1 h => ?_)
  obtain ⟨hzr1, h⟩ := h
  refine g_if_eq C 20 dX10_off_9 (by decide) (fun c2 => ?_) (fun c2 => ?_)
  · have h := wp_t c2 h
    refine g_bipush C (-2 : Int32) dX10_off_20 rfl ?_
    exact hret _ () _ _ _ dX10_off_22 h rfl
  have h := wp_f c2 h
  refine g_aload_n C 0 0 o dX10_off_12 rfl rfl ?_
  refine g_iload_n C 1 1 x1 dX10_off_13 rfl rfl ?_
  refine g_callVi0 (As := [.int x1]) (rest := []) C (c_X10_offBy l D cI cJ cZ cW o o_text o_now o_trial o_diary o_kept o_isKept o_knownPlace o_knownLetter o_letters o_starts o_bestLetters o_deep o_worth o_readTicks v_length v_acts v_next v_known v_seed v_wide v_bits v_parity v_stops v_idle v_frames v_failed v_failedAt v_margin v_bestFrames v_alike v_fitting v_readLevel v_readMany v_part v_ten v_now x1 fu _ h) 1 gd_X10_182 rfl rfl rfl (by decide +kernel) ⟨Nat.le_of_ble_eq_true rfl, Nat.le_of_ble_eq_true rfl⟩ ⟨Nat.le_of_ble_eq_true rfl, Nat.le_of_ble_eq_true rfl⟩ 10 0 rfl rfl rfl rfl (Nat.le_of_ble_eq_true rfl) [0, 1] rfl rfl dX10_off_14 (fun r3 h => ?_)
  refine g_goto C 22 dX10_off_17 (by decide) ?_
  exact hret _ () _ _ _ dX10_off_22 h rfl
abbrev rmX10_note : Room := { frames := 0, cells := 0, slots := 0, locals := 0 }
def wX10_note_70 (fu : Nat) (v_now : (Nat → Int32)) (Q : Int32 → Int32 → (Nat → Int32) → Prop) (k1 : Int32) (v_acts : Int32) (v_next : Int32) (v_diary : (Nat → Int32)) : Prop := Q k1 v_next v_diary
def wX10_note_2 (fu : Nat) (v_now : (Nat → Int32)) (Q : Int32 → Int32 → (Nat → Int32) → Prop) : Nat → Int32 → Int32 → Int32 → (Nat → Int32) → Prop
  | 0, _, _, _, _ => False
  | n0 + 1, x1, v_acts, v_next, v_diary => (if (361 : Int32) ≤ x1 then (if (14 : Int32) ≤ v_acts then wX10_note_70 fu v_now Q (14 : Int32) v_acts (irm (v_next + (1 : Int32)) (14 : Int32)) v_diary else wX10_note_70 fu v_now Q (v_acts + (1 : Int32)) v_acts (irm (v_next + (1 : Int32)) (14 : Int32)) v_diary) else (vp_in x1 361 ∧ (vp_in (((361 : Int32) * v_next) + x1) 5054 ∧ (wX10_note_2 fu v_now Q n0) (x1 + (1 : Int32)) v_acts v_next (upd v_diary (ix (((361 : Int32) * v_next) + x1)) (v_now (ix x1))))))
def wp_X10_note (fu : Nat) (v_now : (Nat → Int32)) (v_acts : Int32) (v_next : Int32) (v_diary : (Nat → Int32)) (Q : Int32 → Int32 → (Nat → Int32) → Prop) : Prop := wX10_note_2 fu v_now Q fu (0 : Int32) v_acts v_next v_diary
set_option maxHeartbeats 4000000 in
set_option maxRecDepth 100000 in
theorem c_X10_note (l : Launch) (D : va_G) (cI cJ cZ cW : ClassId) (o o_text o_now o_trial o_diary o_kept o_isKept o_knownPlace o_knownLetter o_letters o_starts o_bestLetters o_deep o_worth o_readTicks : Nat) (v_length : Int32) (v_acts : Int32) (v_next : Int32) (v_known : Int32) (v_seed : Int64) (v_wide : Int32) (v_bits : Int32) (v_parity : Int32) (v_stops : Int32) (v_idle : Int32) (v_frames : Int32) (v_failed : Int32) (v_failedAt : Int32) (v_margin : Int32) (v_bestFrames : Int32) (v_alike : Int32) (v_fitting : Int32) (v_readLevel : Int32) (v_readMany : Int32) (v_part : Int32) (v_ten : Int32) (v_diary : (Nat → Int32)) (v_now : (Nat → Int32)) (fu : Nat) (Q : Int32 → Int32 → (Nat → Int32) → Prop) (h : wp_X10_note fu v_now v_acts v_next v_diary Q) : CtV l yX10_note wkX10_note rmX10_note D (tys4 cI cJ cZ cW) [.ref o] [(o, .inr (10, [.ref o_text, .int v_length, .ref o_now, .ref o_trial, .ref o_diary, .int v_acts, .int v_next, .ref o_kept, .ref o_isKept, .ref o_knownPlace, .ref o_knownLetter, .int v_known, .long v_seed, .int v_wide, .int v_bits, .int v_parity, .int v_stops, .int v_idle, .int v_frames, .int v_failed, .int v_failedAt, .int v_margin, .ref o_letters, .ref o_starts, .int v_bestFrames, .ref o_bestLetters, .int v_alike, .int v_fitting, .ref o_deep, .ref o_worth, .int v_readLevel, .int v_readMany, .ref o_readTicks, .int v_part, .int v_ten])), (o_diary, .inl (cI, 5054, .inl v_diary)), (o_now, .inl (cI, 361, .inl v_now))] (fun (u : Int32 × Int32 × (Nat → Int32)) => Q u.1 u.2.1 u.2.2) (fun (u : Int32 × Int32 × (Nat → Int32)) => [(o, .inr (10, [.ref o_text, .int v_length, .ref o_now, .ref o_trial, .ref o_diary, .int u.1, .int u.2.1, .ref o_kept, .ref o_isKept, .ref o_knownPlace, .ref o_knownLetter, .int v_known, .long v_seed, .int v_wide, .int v_bits, .int v_parity, .int v_stops, .int v_idle, .int v_frames, .int v_failed, .int v_failedAt, .int v_margin, .ref o_letters, .ref o_starts, .int v_bestFrames, .ref o_bestLetters, .int v_alike, .int v_fitting, .ref o_deep, .ref o_worth, .int v_readLevel, .int v_readMany, .ref o_readTicks, .int v_part, .int v_ten])), (o_diary, .inl (cI, 5054, .inl u.2.2)), (o_now, .inl (cI, 361, .inl v_now))]) := by
  refine CtV.of (S := Int32 × Int32 × (Nat → Int32)) (y := yX10_note) (Tc := wkX10_note) (rm := rmX10_note) (D := D) (tys := tys4 cI cJ cZ cW) (av := [.ref o]) (wc := [(o, .inr (10, [.ref o_text, .int v_length, .ref o_now, .ref o_trial, .ref o_diary, .int v_acts, .int v_next, .ref o_kept, .ref o_isKept, .ref o_knownPlace, .ref o_knownLetter, .int v_known, .long v_seed, .int v_wide, .int v_bits, .int v_parity, .int v_stops, .int v_idle, .int v_frames, .int v_failed, .int v_failedAt, .int v_margin, .ref o_letters, .ref o_starts, .int v_bestFrames, .ref o_bestLetters, .int v_alike, .int v_fitting, .ref o_deep, .ref o_worth, .int v_readLevel, .int v_readMany, .ref o_readTicks, .int v_part, .int v_ten])), (o_diary, .inl (cI, 5054, .inl v_diary)), (o_now, .inl (cI, 361, .inl v_now))]) (post := (fun (u : Int32 × Int32 × (Nat → Int32)) => Q u.1 u.2.1 u.2.2)) (w1 := (fun (u : Int32 × Int32 × (Nat → Int32)) => [(o, .inr (10, [.ref o_text, .int v_length, .ref o_now, .ref o_trial, .ref o_diary, .int u.1, .int u.2.1, .ref o_kept, .ref o_isKept, .ref o_knownPlace, .ref o_knownLetter, .int v_known, .long v_seed, .int v_wide, .int v_bits, .int v_parity, .int v_stops, .int v_idle, .int v_frames, .int v_failed, .int v_failedAt, .int v_margin, .ref o_letters, .ref o_starts, .int v_bestFrames, .ref o_bestLetters, .int v_alike, .int v_fitting, .ref o_deep, .ref o_worth, .int v_readLevel, .int v_readMany, .ref o_readTicks, .int v_part, .int v_ten])), (o_diary, .inl (cI, 5054, .inl u.2.2)), (o_now, .inl (cI, 361, .inl v_now))])) (cc := cX10_note) (maxL := 2) RX10 rfl (by decide +kernel) rfl rfl [(0, .ref o)] rfl ?_
  intro p e s m args below meth c A Qm C hret
  have H70 : ∀ (k1 : Int32) (v_acts : Int32) (v_next : Int32) (v_diary : (Nat → Int32)), wX10_note_70 fu v_now Q k1 v_acts v_next v_diary → G p l e rmX10_note s m args below meth c D A 2 0 0 Qm [(o, .inr (10, [.ref o_text, .int v_length, .ref o_now, .ref o_trial, .ref o_diary, .int v_acts, .int v_next, .ref o_kept, .ref o_isKept, .ref o_knownPlace, .ref o_knownLetter, .int v_known, .long v_seed, .int v_wide, .int v_bits, .int v_parity, .int v_stops, .int v_idle, .int v_frames, .int v_failed, .int v_failedAt, .int v_margin, .ref o_letters, .ref o_starts, .int v_bestFrames, .ref o_bestLetters, .int v_alike, .int v_fitting, .ref o_deep, .ref o_worth, .int v_readLevel, .int v_readMany, .ref o_readTicks, .int v_part, .int v_ten])), (o_diary, .inl (cI, 5054, .inl v_diary)), (o_now, .inl (cI, 361, .inl v_now))] [] 70 [.int k1, .ref o] := by
    intro k1 v_acts v_next v_diary h
    unfold wX10_note_70 at h
    refine g_put C 10 ix_10 0 _ rfl rfl 5 (by decide) wm_247 rfl tyX10 tyX10_ok nmX10 rfl rfl rfl (Nat.le_of_ble_eq_true rfl) dX10_note_70 [(o, .inr (10, [.ref o_text, .int v_length, .ref o_now, .ref o_trial, .ref o_diary, .int k1, .int v_next, .ref o_kept, .ref o_isKept, .ref o_knownPlace, .ref o_knownLetter, .int v_known, .long v_seed, .int v_wide, .int v_bits, .int v_parity, .int v_stops, .int v_idle, .int v_frames, .int v_failed, .int v_failedAt, .int v_margin, .ref o_letters, .ref o_starts, .int v_bestFrames, .ref o_bestLetters, .int v_alike, .int v_fitting, .ref o_deep, .ref o_worth, .int v_readLevel, .int v_readMany, .ref o_readTicks, .int v_part, .int v_ten])), (o_diary, .inl (cI, 5054, .inl v_diary)), (o_now, .inl (cI, 361, .inl v_now))] rfl ?_
    exact hret (k1, v_next, v_diary) _ _ _ dX10_note_73 h rfl
  have H2 : ∀ (n2 : Nat) (x1 : Int32) (v_acts : Int32) (v_next : Int32) (v_diary : (Nat → Int32)), wX10_note_2 fu v_now Q n2 x1 v_acts v_next v_diary → G p l e rmX10_note s m args below meth c D A 2 0 0 Qm [(o, .inr (10, [.ref o_text, .int v_length, .ref o_now, .ref o_trial, .ref o_diary, .int v_acts, .int v_next, .ref o_kept, .ref o_isKept, .ref o_knownPlace, .ref o_knownLetter, .int v_known, .long v_seed, .int v_wide, .int v_bits, .int v_parity, .int v_stops, .int v_idle, .int v_frames, .int v_failed, .int v_failedAt, .int v_margin, .ref o_letters, .ref o_starts, .int v_bestFrames, .ref o_bestLetters, .int v_alike, .int v_fitting, .ref o_deep, .ref o_worth, .int v_readLevel, .int v_readMany, .ref o_readTicks, .int v_part, .int v_ten])), (o_diary, .inl (cI, 5054, .inl v_diary)), (o_now, .inl (cI, 361, .inl v_now))] [(0, .ref o), (1, .int x1)] 2 [] := by
    intro n2
    induction n2 with
    | zero => intro x1 v_acts v_next v_diary h; exact False.elim h
    | succ n2 ih2 =>
      intro x1 v_acts v_next v_diary h
      unfold wX10_note_2 at h
      refine g_iload_n C 1 1 x1 dX10_note_2 rfl rfl ?_
      refine g_sipush C (361 : Int32) dX10_note_3 rfl ?_
      refine g_icmp_ge C 36 dX10_note_6 (by decide) (fun c1 => ?_) (fun c1 => ?_)
      rotate_left
      · have h := wp_f c1 h
        refine g_aload_n C 0 0 o dX10_note_9 rfl rfl ?_
        refine g_get C 10 ix_10 0 _ rfl rfl 4 (by decide) wm_130 rfl (.ref o_diary) rfl dX10_note_10 ?_
        refine g_sipush C (361 : Int32) dX10_note_13 rfl ?_
        refine g_aload_n C 0 0 o dX10_note_16 rfl rfl ?_
        refine g_get C 10 ix_10 0 _ rfl rfl 6 (by decide) wm_534 rfl (.int v_next) rfl dX10_note_17 ?_
        refine g_imul C dX10_note_20 ?_
        refine g_iload_n C 1 1 x1 dX10_note_21 rfl rfl ?_
        refine g_iadd C dX10_note_22 ?_
        refine g_aload_n C 0 0 o dX10_note_23 rfl rfl ?_
        refine g_get C 10 ix_10 0 _ rfl rfl 2 (by decide) wm_128 rfl (.ref o_now) rfl dX10_note_24 ?_
        refine g_iload_n C 1 1 x1 dX10_note_27 rfl rfl ?_
        obtain ⟨hi3, h⟩ := h
        refine g_iald C 2 0 cI 361 v_now rfl rfl hi3 dX10_note_28 ?_
        obtain ⟨hi4, h⟩ := h
        refine g_iast C 1 0 cI 5054 v_diary rfl rfl hi4 dX10_note_29 [(o, .inr (10, [.ref o_text, .int v_length, .ref o_now, .ref o_trial, .ref o_diary, .int v_acts, .int v_next, .ref o_kept, .ref o_isKept, .ref o_knownPlace, .ref o_knownLetter, .int v_known, .long v_seed, .int v_wide, .int v_bits, .int v_parity, .int v_stops, .int v_idle, .int v_frames, .int v_failed, .int v_failedAt, .int v_margin, .ref o_letters, .ref o_starts, .int v_bestFrames, .ref o_bestLetters, .int v_alike, .int v_fitting, .ref o_deep, .ref o_worth, .int v_readLevel, .int v_readMany, .ref o_readTicks, .int v_part, .int v_ten])), (o_diary, .inl (cI, 5054, .inl (upd v_diary (ix (((361 : Int32) * v_next) + x1)) (v_now (ix x1))))), (o_now, .inl (cI, 361, .inl v_now))] rfl ?_
        refine g_iinc C 1 x1 (x1 + (1 : Int32)) [(1, .int (x1 + (1 : Int32))), (0, .ref o)] dX10_note_30 rfl rfl (by decide) rfl ?_
        refine g_goto C 2 dX10_note_33 (by decide) ?_
        refine g_lv [1, 0] rfl ?_
        exact ih2  (x1 + (1 : Int32)) v_acts v_next (upd v_diary (ix (((361 : Int32) * v_next) + x1)) (v_now (ix x1))) h
      have h := wp_t c1 h
      refine g_aload_n C 0 0 o dX10_note_36 rfl rfl ?_
      refine g_aload_n C 0 0 o dX10_note_37 rfl rfl ?_
      refine g_get C 10 ix_10 0 _ rfl rfl 6 (by decide) wm_534 rfl (.int v_next) rfl dX10_note_38 ?_
      refine g_iconst C (1 : Int32) dX10_note_41 rfl ?_
      refine g_iadd C dX10_note_42 ?_
      refine g_bipush C (14 : Int32) dX10_note_43 rfl ?_
      refine g_irem C (by decide) dX10_note_45 ?_
      refine g_put C 10 ix_10 0 _ rfl rfl 6 (by decide) wm_534 rfl tyX10 tyX10_ok nmX10 rfl rfl rfl (Nat.le_of_ble_eq_true rfl) dX10_note_46 [(o, .inr (10, [.ref o_text, .int v_length, .ref o_now, .ref o_trial, .ref o_diary, .int v_acts, .int (irm (v_next + (1 : Int32)) (14 : Int32)), .ref o_kept, .ref o_isKept, .ref o_knownPlace, .ref o_knownLetter, .int v_known, .long v_seed, .int v_wide, .int v_bits, .int v_parity, .int v_stops, .int v_idle, .int v_frames, .int v_failed, .int v_failedAt, .int v_margin, .ref o_letters, .ref o_starts, .int v_bestFrames, .ref o_bestLetters, .int v_alike, .int v_fitting, .ref o_deep, .ref o_worth, .int v_readLevel, .int v_readMany, .ref o_readTicks, .int v_part, .int v_ten])), (o_diary, .inl (cI, 5054, .inl v_diary)), (o_now, .inl (cI, 361, .inl v_now))] rfl ?_
      refine g_aload_n C 0 0 o dX10_note_49 rfl rfl ?_
      refine g_aload_n C 0 0 o dX10_note_50 rfl rfl ?_
      refine g_get C 10 ix_10 0 _ rfl rfl 5 (by decide) wm_247 rfl (.int v_acts) rfl dX10_note_51 ?_
      refine g_bipush C (14 : Int32) dX10_note_54 rfl ?_
      refine g_icmp_ge C 68 dX10_note_56 (by decide) (fun c2 => ?_) (fun c2 => ?_)
      · have h := wp_t c2 h
        refine g_bipush C (14 : Int32) dX10_note_68 rfl ?_
        refine g_lv [] rfl ?_
        exact H70  (14 : Int32) v_acts (irm (v_next + (1 : Int32)) (14 : Int32)) v_diary h
      have h := wp_f c2 h
      refine g_aload_n C 0 0 o dX10_note_59 rfl rfl ?_
      refine g_get C 10 ix_10 0 _ rfl rfl 5 (by decide) wm_247 rfl (.int v_acts) rfl dX10_note_60 ?_
      refine g_iconst C (1 : Int32) dX10_note_63 rfl ?_
      refine g_iadd C dX10_note_64 ?_
      refine g_goto C 70 dX10_note_65 (by decide) ?_
      refine g_lv [] rfl ?_
      exact H70  (v_acts + (1 : Int32)) v_acts (irm (v_next + (1 : Int32)) (14 : Int32)) v_diary h
  unfold wp_X10_note at h
  refine g_iconst C (0 : Int32) dX10_note_0 rfl ?_
  refine g_istore_n C [(1, .int (0 : Int32)), (0, .ref o)] dX10_note_1 rfl (by decide) rfl ?_
  refine g_lv [1, 0] rfl ?_
  exact H2 fu  (0 : Int32) v_acts v_next v_diary h
abbrev rmX10_hearOn : Room := { frames := 0, cells := 0, slots := 0, locals := 0 }
def wX10_hearOn_2 (fu : Nat) (x1 : Int32) (x2 : Int32) (Q : (Nat → Int32) → Prop) : Nat → Int32 → (Nat → Int32) → Prop
  | 0, _, _ => False
  | n0 + 1, x3, v_a0 => (if x2 ≤ x3 then Q v_a0 else (vp_in (v_a0 (ix (360 : Int32))) 361 ∧ (wX10_hearOn_2 fu x1 x2 Q n0) (x3 + (1 : Int32)) (upd (upd v_a0 (ix (v_a0 (ix (360 : Int32)))) x1) (ix (360 : Int32)) (((upd v_a0 (ix (v_a0 (ix (360 : Int32)))) x1) (ix (360 : Int32))) + (1 : Int32)))))
def wp_X10_hearOn (fu : Nat) (x1 : Int32) (x2 : Int32) (v_a0 : (Nat → Int32)) (Q : (Nat → Int32) → Prop) : Prop := wX10_hearOn_2 fu x1 x2 Q fu (0 : Int32) v_a0
set_option maxHeartbeats 4000000 in
set_option maxRecDepth 100000 in
theorem c_X10_hearOn (l : Launch) (D : va_G) (cI cJ cZ cW : ClassId) (o_a0 : Nat) (v_a0 : (Nat → Int32)) (x1 : Int32) (x2 : Int32) (fu : Nat) (Q : (Nat → Int32) → Prop) (h : wp_X10_hearOn fu x1 x2 v_a0 Q) : CtV l yX10_hearOn wkX10_hearOn rmX10_hearOn D (tys4 cI cJ cZ cW) [.ref o_a0, .int x1, .int x2] [(o_a0, .inl (cI, 361, .inl v_a0))] (fun (u : (Nat → Int32)) => Q u) (fun (u : (Nat → Int32)) => [(o_a0, .inl (cI, 361, .inl u))]) := by
  refine CtV.of (S := (Nat → Int32)) (y := yX10_hearOn) (Tc := wkX10_hearOn) (rm := rmX10_hearOn) (D := D) (tys := tys4 cI cJ cZ cW) (av := [.ref o_a0, .int x1, .int x2]) (wc := [(o_a0, .inl (cI, 361, .inl v_a0))]) (post := (fun (u : (Nat → Int32)) => Q u)) (w1 := (fun (u : (Nat → Int32)) => [(o_a0, .inl (cI, 361, .inl u))])) (cc := cX10_hearOn) (maxL := 4) RX10 rfl (by decide +kernel) rfl rfl [(0, .ref o_a0), (1, .int x1), (2, .int x2)] rfl ?_
  intro p e s m args below meth c A Qm C hret
  have H2 : ∀ (n2 : Nat) (x3 : Int32) (v_a0 : (Nat → Int32)), wX10_hearOn_2 fu x1 x2 Q n2 x3 v_a0 → G p l e rmX10_hearOn s m args below meth c D A 4 0 0 Qm [(o_a0, .inl (cI, 361, .inl v_a0))] [(0, .ref o_a0), (1, .int x1), (2, .int x2), (3, .int x3)] 2 [] := by
    intro n2
    induction n2 with
    | zero => intro x3 v_a0 h; exact False.elim h
    | succ n2 ih2 =>
      intro x3 v_a0 h
      unfold wX10_hearOn_2 at h
      refine g_iload_n C 3 3 x3 dX10_hearOn_2 rfl rfl ?_
      refine g_iload_n C 2 2 x2 dX10_hearOn_3 rfl rfl ?_
      refine g_icmp_ge C 30 dX10_hearOn_4 (by decide) (fun c1 => ?_) (fun c1 => ?_)
      · have h := wp_t c1 h
        exact hret v_a0 _ _ _ dX10_hearOn_30 h rfl
      have h := wp_f c1 h
      refine g_aload_n C 0 0 o_a0 dX10_hearOn_7 rfl rfl ?_
      refine g_aload_n C 0 0 o_a0 dX10_hearOn_8 rfl rfl ?_
      refine g_sipush C (360 : Int32) dX10_hearOn_9 rfl ?_
      refine g_iald C 0 0 cI 361 v_a0 rfl rfl (vp_in_dec rfl) dX10_hearOn_12 ?_
      refine g_iload_n C 1 1 x1 dX10_hearOn_13 rfl rfl ?_
      obtain ⟨hi2, h⟩ := h
      refine g_iast C 0 0 cI 361 v_a0 rfl rfl hi2 dX10_hearOn_14 [(o_a0, .inl (cI, 361, .inl (upd v_a0 (ix (v_a0 (ix (360 : Int32)))) x1)))] rfl ?_
      refine g_aload_n C 0 0 o_a0 dX10_hearOn_15 rfl rfl ?_
      refine g_sipush C (360 : Int32) dX10_hearOn_16 rfl ?_
      refine g_dup2 C dX10_hearOn_19 rfl rfl ?_
      refine g_iald C 0 0 cI 361 (upd v_a0 (ix (v_a0 (ix (360 : Int32)))) x1) rfl rfl (vp_in_dec rfl) dX10_hearOn_20 ?_
      refine g_iconst C (1 : Int32) dX10_hearOn_21 rfl ?_
      refine g_iadd C dX10_hearOn_22 ?_
      refine g_iast C 0 0 cI 361 (upd v_a0 (ix (v_a0 (ix (360 : Int32)))) x1) rfl rfl (vp_in_dec rfl) dX10_hearOn_23 [(o_a0, .inl (cI, 361, .inl (upd (upd v_a0 (ix (v_a0 (ix (360 : Int32)))) x1) (ix (360 : Int32)) (((upd v_a0 (ix (v_a0 (ix (360 : Int32)))) x1) (ix (360 : Int32))) + (1 : Int32)))))] rfl ?_
      refine g_iinc C 3 x3 (x3 + (1 : Int32)) [(3, .int (x3 + (1 : Int32))), (0, .ref o_a0), (1, .int x1), (2, .int x2)] dX10_hearOn_24 rfl rfl (by decide) rfl ?_
      refine g_goto C 2 dX10_hearOn_27 (by decide) ?_
      refine g_lv [1, 2, 3, 0] rfl ?_
      exact ih2  (x3 + (1 : Int32)) (upd (upd v_a0 (ix (v_a0 (ix (360 : Int32)))) x1) (ix (360 : Int32)) (((upd v_a0 (ix (v_a0 (ix (360 : Int32)))) x1) (ix (360 : Int32))) + (1 : Int32))) h
  unfold wp_X10_hearOn at h
  refine g_iconst C (0 : Int32) dX10_hearOn_0 rfl ?_
  refine g_istore_n C [(3, .int (0 : Int32)), (0, .ref o_a0), (1, .int x1), (2, .int x2)] dX10_hearOn_1 rfl (by decide) rfl ?_
  refine g_lv [1, 2, 3, 0] rfl ?_
  exact H2 fu  (0 : Int32) v_a0 h
abbrev rmX10_hear : Room := { frames := 1, cells := 0, slots := 0, locals := 25 }
def wp_X10_hear (fu : Nat) (x1 : Int32) (x2 : Int32) (v_acts : Int32) (v_next : Int32) (v_diary : (Nat → Int32)) (v_now : (Nat → Int32)) (Q : Int32 → Int32 → Int32 → (Nat → Int32) → (Nat → Int32) → Prop) : Prop := wp_X10_in fu (Int32.toInt64 x1) (0 : Int64) (1 : Int64) (fun (r1 : Int32) => (if r1 = 0 then Q (-2 : Int32) v_acts v_next v_diary v_now else wp_X10_in fu (Int32.toInt64 x2) (1 : Int64) (99 : Int64) (fun (r3 : Int32) => (if r3 = 0 then Q (-2 : Int32) v_acts v_next v_diary v_now else (if ((v_now (ix (360 : Int32))) + x2) ≤ (360 : Int32) then wp_X10_note fu v_now v_acts v_next v_diary (fun (z6 : Int32) (z7 : Int32) (z8 : (Nat → Int32)) => wp_X10_hearOn fu x1 x2 v_now (fun (z9 : (Nat → Int32)) => Q (z9 (ix (360 : Int32))) z6 z7 z8 z9)) else Q (-4 : Int32) v_acts v_next v_diary v_now)))))
set_option maxHeartbeats 4000000 in
set_option maxRecDepth 100000 in
theorem c_X10_hear (l : Launch) (D : va_G) (cI cJ cZ cW : ClassId) (o o_text o_now o_trial o_diary o_kept o_isKept o_knownPlace o_knownLetter o_letters o_starts o_bestLetters o_deep o_worth o_readTicks : Nat) (v_length : Int32) (v_acts : Int32) (v_next : Int32) (v_known : Int32) (v_seed : Int64) (v_wide : Int32) (v_bits : Int32) (v_parity : Int32) (v_stops : Int32) (v_idle : Int32) (v_frames : Int32) (v_failed : Int32) (v_failedAt : Int32) (v_margin : Int32) (v_bestFrames : Int32) (v_alike : Int32) (v_fitting : Int32) (v_readLevel : Int32) (v_readMany : Int32) (v_part : Int32) (v_ten : Int32) (v_diary : (Nat → Int32)) (v_now : (Nat → Int32)) (x1 : Int32) (x2 : Int32) (fu : Nat) (Q : Int32 → Int32 → Int32 → (Nat → Int32) → (Nat → Int32) → Prop) (h : wp_X10_hear fu x1 x2 v_acts v_next v_diary v_now Q) : CtI l yX10_hear wkX10_hear rmX10_hear D (tys4 cI cJ cZ cW) [.ref o, .int x1, .int x2] [(o, .inr (10, [.ref o_text, .int v_length, .ref o_now, .ref o_trial, .ref o_diary, .int v_acts, .int v_next, .ref o_kept, .ref o_isKept, .ref o_knownPlace, .ref o_knownLetter, .int v_known, .long v_seed, .int v_wide, .int v_bits, .int v_parity, .int v_stops, .int v_idle, .int v_frames, .int v_failed, .int v_failedAt, .int v_margin, .ref o_letters, .ref o_starts, .int v_bestFrames, .ref o_bestLetters, .int v_alike, .int v_fitting, .ref o_deep, .ref o_worth, .int v_readLevel, .int v_readMany, .ref o_readTicks, .int v_part, .int v_ten])), (o_diary, .inl (cI, 5054, .inl v_diary)), (o_now, .inl (cI, 361, .inl v_now))] (fun (r : Int32) (u : Int32 × Int32 × (Nat → Int32) × (Nat → Int32)) => Q r u.1 u.2.1 u.2.2.1 u.2.2.2) (fun (u : Int32 × Int32 × (Nat → Int32) × (Nat → Int32)) => [(o, .inr (10, [.ref o_text, .int v_length, .ref o_now, .ref o_trial, .ref o_diary, .int u.1, .int u.2.1, .ref o_kept, .ref o_isKept, .ref o_knownPlace, .ref o_knownLetter, .int v_known, .long v_seed, .int v_wide, .int v_bits, .int v_parity, .int v_stops, .int v_idle, .int v_frames, .int v_failed, .int v_failedAt, .int v_margin, .ref o_letters, .ref o_starts, .int v_bestFrames, .ref o_bestLetters, .int v_alike, .int v_fitting, .ref o_deep, .ref o_worth, .int v_readLevel, .int v_readMany, .ref o_readTicks, .int v_part, .int v_ten])), (o_diary, .inl (cI, 5054, .inl u.2.2.1)), (o_now, .inl (cI, 361, .inl u.2.2.2))]) := by
  refine CtI.of (S := Int32 × Int32 × (Nat → Int32) × (Nat → Int32)) (y := yX10_hear) (Tc := wkX10_hear) (rm := rmX10_hear) (D := D) (tys := tys4 cI cJ cZ cW) (av := [.ref o, .int x1, .int x2]) (wc := [(o, .inr (10, [.ref o_text, .int v_length, .ref o_now, .ref o_trial, .ref o_diary, .int v_acts, .int v_next, .ref o_kept, .ref o_isKept, .ref o_knownPlace, .ref o_knownLetter, .int v_known, .long v_seed, .int v_wide, .int v_bits, .int v_parity, .int v_stops, .int v_idle, .int v_frames, .int v_failed, .int v_failedAt, .int v_margin, .ref o_letters, .ref o_starts, .int v_bestFrames, .ref o_bestLetters, .int v_alike, .int v_fitting, .ref o_deep, .ref o_worth, .int v_readLevel, .int v_readMany, .ref o_readTicks, .int v_part, .int v_ten])), (o_diary, .inl (cI, 5054, .inl v_diary)), (o_now, .inl (cI, 361, .inl v_now))]) (post := (fun (r : Int32) (u : Int32 × Int32 × (Nat → Int32) × (Nat → Int32)) => Q r u.1 u.2.1 u.2.2.1 u.2.2.2)) (w1 := (fun (u : Int32 × Int32 × (Nat → Int32) × (Nat → Int32)) => [(o, .inr (10, [.ref o_text, .int v_length, .ref o_now, .ref o_trial, .ref o_diary, .int u.1, .int u.2.1, .ref o_kept, .ref o_isKept, .ref o_knownPlace, .ref o_knownLetter, .int v_known, .long v_seed, .int v_wide, .int v_bits, .int v_parity, .int v_stops, .int v_idle, .int v_frames, .int v_failed, .int v_failedAt, .int v_margin, .ref o_letters, .ref o_starts, .int v_bestFrames, .ref o_bestLetters, .int v_alike, .int v_fitting, .ref o_deep, .ref o_worth, .int v_readLevel, .int v_readMany, .ref o_readTicks, .int v_part, .int v_ten])), (o_diary, .inl (cI, 5054, .inl u.2.2.1)), (o_now, .inl (cI, 361, .inl u.2.2.2))])) (cc := cX10_hear) (maxL := 3) RX10 rfl (by decide +kernel) rfl rfl [(0, .ref o), (1, .int x1), (2, .int x2)] rfl ?_
  intro p e s m args below meth c A Qm C hret
  unfold wp_X10_hear at h
  refine g_iload_n C 1 1 x1 dX10_hear_0 rfl rfl ?_
  refine g_i2l C dX10_hear_1 ?_
  refine g_lconst C (0 : Int64) dX10_hear_2 rfl ?_
  refine g_lconst C (1 : Int64) dX10_hear_3 rfl ?_
  refine g_callSi0 (As := [.long (Int32.toInt64 x1), .long (0 : Int64), .long (1 : Int64)]) (rest := []) C (c_X10_in l D cI cJ cZ cW (Int32.toInt64 x1) (0 : Int64) (1 : Int64) fu _ h) 3 gd_X10_53 rfl rfl rfl (by decide +kernel) ⟨Nat.le_of_ble_eq_true rfl, Nat.le_of_ble_eq_true rfl⟩ ⟨Nat.le_of_ble_eq_true rfl, Nat.le_of_ble_eq_true rfl⟩ rfl rfl (Nat.le_of_ble_eq_true rfl) [] rfl rfl dX10_hear_4 (fun r1 h => ?_)
  obtain ⟨hzr1, h⟩ := h
  refine g_if_eq C 22 dX10_hear_7 (by decide) (fun c2 => ?_) (fun c2 => ?_)
  · have h := wp_t c2 h
    refine g_bipush C (-2 : Int32) dX10_hear_22 rfl ?_
    exact hret _ (v_acts, v_next, v_diary, v_now) _ _ _ dX10_hear_24 h rfl
  have h := wp_f c2 h
  refine g_iload_n C 2 2 x2 dX10_hear_10 rfl rfl ?_
  refine g_i2l C dX10_hear_11 ?_
  refine g_lconst C (1 : Int64) dX10_hear_12 rfl ?_
  refine g_ldc2 C (99 : Int64) wm_529 dX10_hear_13 ?_
  refine g_callSi0 (As := [.long (Int32.toInt64 x2), .long (1 : Int64), .long (99 : Int64)]) (rest := []) C (c_X10_in l D cI cJ cZ cW (Int32.toInt64 x2) (1 : Int64) (99 : Int64) fu _ h) 3 gd_X10_53 rfl rfl rfl (by decide +kernel) ⟨Nat.le_of_ble_eq_true rfl, Nat.le_of_ble_eq_true rfl⟩ ⟨Nat.le_of_ble_eq_true rfl, Nat.le_of_ble_eq_true rfl⟩ rfl rfl (Nat.le_of_ble_eq_true rfl) [] rfl rfl dX10_hear_16 (fun r3 h => ?_)
  obtain ⟨hzr3, h⟩ := h
  refine g_if_ne C 25 dX10_hear_19 (by decide) (fun c4 => ?_) (fun c4 => ?_)
  rotate_left
  · have h := wp_t c4 h
    refine g_bipush C (-2 : Int32) dX10_hear_22 rfl ?_
    exact hret _ (v_acts, v_next, v_diary, v_now) _ _ _ dX10_hear_24 h rfl
  have h := wp_f c4 h
  refine g_aload_n C 0 0 o dX10_hear_25 rfl rfl ?_
  refine g_get C 10 ix_10 0 _ rfl rfl 2 (by decide) wm_128 rfl (.ref o_now) rfl dX10_hear_26 ?_
  refine g_sipush C (360 : Int32) dX10_hear_29 rfl ?_
  refine g_iald C 2 0 cI 361 v_now rfl rfl (vp_in_dec rfl) dX10_hear_32 ?_
  refine g_iload_n C 2 2 x2 dX10_hear_33 rfl rfl ?_
  refine g_iadd C dX10_hear_34 ?_
  refine g_sipush C (360 : Int32) dX10_hear_35 rfl ?_
  refine g_icmp_le C 44 dX10_hear_38 (by decide) (fun c5 => ?_) (fun c5 => ?_)
  rotate_left
  · have h := wp_f c5 h
    refine g_bipush C (-4 : Int32) dX10_hear_41 rfl ?_
    exact hret _ (v_acts, v_next, v_diary, v_now) _ _ _ dX10_hear_43 h rfl
  have h := wp_t c5 h
  refine g_aload_n C 0 0 o dX10_hear_44 rfl rfl ?_
  refine g_callVv (As := []) (rest := []) C (c_X10_note l D cI cJ cZ cW o o_text o_now o_trial o_diary o_kept o_isKept o_knownPlace o_knownLetter o_letters o_starts o_bestLetters o_deep o_worth o_readTicks v_length v_acts v_next v_known v_seed v_wide v_bits v_parity v_stops v_idle v_frames v_failed v_failedAt v_margin v_bestFrames v_alike v_fitting v_readLevel v_readMany v_part v_ten v_diary v_now fu _ h) 0 gd_X10_209 rfl rfl rfl (by decide +kernel) ⟨Nat.le_of_ble_eq_true rfl, Nat.le_of_ble_eq_true rfl⟩ ⟨Nat.le_of_ble_eq_true rfl, Nat.le_of_ble_eq_true rfl⟩ 10 0 rfl rfl rfl rfl (Nat.le_of_ble_eq_true rfl) [0, 1, 2] [some 0, some 1, some 2] rfl rfl rfl dX10_hear_45 (fun u h => ?_)
  obtain ⟨z6, z7, z8⟩ := u
  refine ⟨[(o, .inr (10, [.ref o_text, .int v_length, .ref o_now, .ref o_trial, .ref o_diary, .int z6, .int z7, .ref o_kept, .ref o_isKept, .ref o_knownPlace, .ref o_knownLetter, .int v_known, .long v_seed, .int v_wide, .int v_bits, .int v_parity, .int v_stops, .int v_idle, .int v_frames, .int v_failed, .int v_failedAt, .int v_margin, .ref o_letters, .ref o_starts, .int v_bestFrames, .ref o_bestLetters, .int v_alike, .int v_fitting, .ref o_deep, .ref o_worth, .int v_readLevel, .int v_readMany, .ref o_readTicks, .int v_part, .int v_ten])), (o_diary, .inl (cI, 5054, .inl z8)), (o_now, .inl (cI, 361, .inl v_now))], rfl, rfl, rfl, ?_⟩
  refine g_aload_n C 0 0 o dX10_hear_48 rfl rfl ?_
  refine g_get C 10 ix_10 0 _ rfl rfl 2 (by decide) wm_128 rfl (.ref o_now) rfl dX10_hear_49 ?_
  refine g_iload_n C 1 1 x1 dX10_hear_52 rfl rfl ?_
  refine g_iload_n C 2 2 x2 dX10_hear_53 rfl rfl ?_
  refine g_callSv (As := [.ref o_now, .int x1, .int x2]) (rest := []) C (c_X10_hearOn l D cI cJ cZ cW o_now v_now x1 x2 fu _ h) 3 gd_X10_212 rfl rfl rfl (by decide +kernel) ⟨Nat.le_of_ble_eq_true rfl, Nat.le_of_ble_eq_true rfl⟩ ⟨Nat.le_of_ble_eq_true rfl, Nat.le_of_ble_eq_true rfl⟩ rfl rfl (Nat.le_of_ble_eq_true rfl) [2] [none, none, some 0] rfl rfl rfl dX10_hear_54 (fun u h => ?_)
  obtain ⟨z9, rfl⟩ : ∃ z, z = u := ⟨_, rfl⟩
  refine ⟨[(o, .inr (10, [.ref o_text, .int v_length, .ref o_now, .ref o_trial, .ref o_diary, .int z6, .int z7, .ref o_kept, .ref o_isKept, .ref o_knownPlace, .ref o_knownLetter, .int v_known, .long v_seed, .int v_wide, .int v_bits, .int v_parity, .int v_stops, .int v_idle, .int v_frames, .int v_failed, .int v_failedAt, .int v_margin, .ref o_letters, .ref o_starts, .int v_bestFrames, .ref o_bestLetters, .int v_alike, .int v_fitting, .ref o_deep, .ref o_worth, .int v_readLevel, .int v_readMany, .ref o_readTicks, .int v_part, .int v_ten])), (o_diary, .inl (cI, 5054, .inl z8)), (o_now, .inl (cI, 361, .inl z9))], rfl, rfl, rfl, ?_⟩
  refine g_aload_n C 0 0 o dX10_hear_57 rfl rfl ?_
  refine g_get C 10 ix_10 0 _ rfl rfl 2 (by decide) wm_128 rfl (.ref o_now) rfl dX10_hear_58 ?_
  refine g_sipush C (360 : Int32) dX10_hear_61 rfl ?_
  refine g_iald C 2 0 cI 361 z9 rfl rfl (vp_in_dec rfl) dX10_hear_64 ?_
  exact hret _ (z6, z7, z8, z9) _ _ _ dX10_hear_65 h rfl
abbrev rmX10_hasRoom : Room := { frames := 1, cells := 0, slots := 0, locals := 20 }
def wp_X10_hasRoom (fu : Nat) (v_bits : Int32) (v_parity : Int32) (v_stops : Int32) (v_wide : Int32) (v_a1 : (Nat → Int32)) (Q : Int32 → Prop) : Prop := wp_X10_frameBits fu v_bits v_parity v_stops (fun (r1 : Int32) => (if (360 : Int32) < ((v_a1 (ix (360 : Int32))) + (v_wide * ((1 : Int32) + r1))) then Q (0 : Int32) else Q (1 : Int32)))
set_option maxHeartbeats 4000000 in
set_option maxRecDepth 100000 in
theorem c_X10_hasRoom (l : Launch) (D : va_G) (cI cJ cZ cW : ClassId) (o o_text o_now o_trial o_diary o_kept o_isKept o_knownPlace o_knownLetter o_letters o_starts o_bestLetters o_deep o_worth o_readTicks o_a1 : Nat) (v_length : Int32) (v_acts : Int32) (v_next : Int32) (v_known : Int32) (v_seed : Int64) (v_wide : Int32) (v_bits : Int32) (v_parity : Int32) (v_stops : Int32) (v_idle : Int32) (v_frames : Int32) (v_failed : Int32) (v_failedAt : Int32) (v_margin : Int32) (v_bestFrames : Int32) (v_alike : Int32) (v_fitting : Int32) (v_readLevel : Int32) (v_readMany : Int32) (v_part : Int32) (v_ten : Int32) (v_a1 : (Nat → Int32)) (fu : Nat) (Q : Int32 → Prop) (h : wp_X10_hasRoom fu v_bits v_parity v_stops v_wide v_a1 Q) : CtI l yX10_hasRoom wkX10_hasRoom rmX10_hasRoom D (tys4 cI cJ cZ cW) [.ref o, .ref o_a1] [(o, .inr (10, [.ref o_text, .int v_length, .ref o_now, .ref o_trial, .ref o_diary, .int v_acts, .int v_next, .ref o_kept, .ref o_isKept, .ref o_knownPlace, .ref o_knownLetter, .int v_known, .long v_seed, .int v_wide, .int v_bits, .int v_parity, .int v_stops, .int v_idle, .int v_frames, .int v_failed, .int v_failedAt, .int v_margin, .ref o_letters, .ref o_starts, .int v_bestFrames, .ref o_bestLetters, .int v_alike, .int v_fitting, .ref o_deep, .ref o_worth, .int v_readLevel, .int v_readMany, .ref o_readTicks, .int v_part, .int v_ten])), (o_a1, .inl (cI, 361, .inl v_a1))] (fun (r : Int32) (u : Unit) => (r = 0 ∨ r = 1) ∧ (fun (r : Int32) (u : Unit) => Q r ) r u) (fun (_ : Unit) => [(o, .inr (10, [.ref o_text, .int v_length, .ref o_now, .ref o_trial, .ref o_diary, .int v_acts, .int v_next, .ref o_kept, .ref o_isKept, .ref o_knownPlace, .ref o_knownLetter, .int v_known, .long v_seed, .int v_wide, .int v_bits, .int v_parity, .int v_stops, .int v_idle, .int v_frames, .int v_failed, .int v_failedAt, .int v_margin, .ref o_letters, .ref o_starts, .int v_bestFrames, .ref o_bestLetters, .int v_alike, .int v_fitting, .ref o_deep, .ref o_worth, .int v_readLevel, .int v_readMany, .ref o_readTicks, .int v_part, .int v_ten])), (o_a1, .inl (cI, 361, .inl v_a1))]) := by
  refine CtI.ofZ (S := Unit) (y := yX10_hasRoom) (Tc := wkX10_hasRoom) (rm := rmX10_hasRoom) (D := D) (tys := tys4 cI cJ cZ cW) (av := [.ref o, .ref o_a1]) (wc := [(o, .inr (10, [.ref o_text, .int v_length, .ref o_now, .ref o_trial, .ref o_diary, .int v_acts, .int v_next, .ref o_kept, .ref o_isKept, .ref o_knownPlace, .ref o_knownLetter, .int v_known, .long v_seed, .int v_wide, .int v_bits, .int v_parity, .int v_stops, .int v_idle, .int v_frames, .int v_failed, .int v_failedAt, .int v_margin, .ref o_letters, .ref o_starts, .int v_bestFrames, .ref o_bestLetters, .int v_alike, .int v_fitting, .ref o_deep, .ref o_worth, .int v_readLevel, .int v_readMany, .ref o_readTicks, .int v_part, .int v_ten])), (o_a1, .inl (cI, 361, .inl v_a1))]) (post := (fun (r : Int32) (u : Unit) => Q r )) (w1 := (fun (_ : Unit) => [(o, .inr (10, [.ref o_text, .int v_length, .ref o_now, .ref o_trial, .ref o_diary, .int v_acts, .int v_next, .ref o_kept, .ref o_isKept, .ref o_knownPlace, .ref o_knownLetter, .int v_known, .long v_seed, .int v_wide, .int v_bits, .int v_parity, .int v_stops, .int v_idle, .int v_frames, .int v_failed, .int v_failedAt, .int v_margin, .ref o_letters, .ref o_starts, .int v_bestFrames, .ref o_bestLetters, .int v_alike, .int v_fitting, .ref o_deep, .ref o_worth, .int v_readLevel, .int v_readMany, .ref o_readTicks, .int v_part, .int v_ten])), (o_a1, .inl (cI, 361, .inl v_a1))])) (cc := cX10_hasRoom) (maxL := 2) RX10 rfl (by decide +kernel) rfl rfl [(0, .ref o), (1, .ref o_a1)] rfl ?_
  intro p e s m args below meth c A Qm C hret
  unfold wp_X10_hasRoom at h
  refine g_aload_n C 1 1 o_a1 dX10_hasRoom_0 rfl rfl ?_
  refine g_sipush C (360 : Int32) dX10_hasRoom_1 rfl ?_
  refine g_iald C 1 0 cI 361 v_a1 rfl rfl (vp_in_dec rfl) dX10_hasRoom_4 ?_
  refine g_aload_n C 0 0 o dX10_hasRoom_5 rfl rfl ?_
  refine g_get C 10 ix_10 0 _ rfl rfl 13 (by decide) wm_408 rfl (.int v_wide) rfl dX10_hasRoom_6 ?_
  refine g_iconst C (1 : Int32) dX10_hasRoom_9 rfl ?_
  refine g_aload_n C 0 0 o dX10_hasRoom_10 rfl rfl ?_
  refine g_callVi0 (As := []) (rest := [.int (1 : Int32), .int v_wide, .int (v_a1 (ix (360 : Int32)))]) C (c_X10_frameBits l D cI cJ cZ cW o o_text o_now o_trial o_diary o_kept o_isKept o_knownPlace o_knownLetter o_letters o_starts o_bestLetters o_deep o_worth o_readTicks v_length v_acts v_next v_known v_seed v_wide v_bits v_parity v_stops v_idle v_frames v_failed v_failedAt v_margin v_bestFrames v_alike v_fitting v_readLevel v_readMany v_part v_ten fu _ h) 0 gd_X10_114 rfl rfl rfl (by decide +kernel) ⟨Nat.le_of_ble_eq_true rfl, Nat.le_of_ble_eq_true rfl⟩ ⟨Nat.le_of_ble_eq_true rfl, Nat.le_of_ble_eq_true rfl⟩ 10 0 rfl rfl rfl rfl (Nat.le_of_ble_eq_true rfl) [0] rfl rfl dX10_hasRoom_11 (fun r1 h => ?_)
  refine g_iadd C dX10_hasRoom_14 ?_
  refine g_imul C dX10_hasRoom_15 ?_
  refine g_iadd C dX10_hasRoom_16 ?_
  refine g_sipush C (360 : Int32) dX10_hasRoom_17 rfl ?_
  refine g_icmp_gt C 27 dX10_hasRoom_20 (by decide) (fun c2 => ?_) (fun c2 => ?_)
  · have h := wp_t c2 h
    refine g_iconst C (0 : Int32) dX10_hasRoom_27 rfl ?_
    exact hret _ () _ _ _ (Or.inl rfl) dX10_hasRoom_28 h rfl
  have h := wp_f c2 h
  refine g_iconst C (1 : Int32) dX10_hasRoom_23 rfl ?_
  refine g_goto C 28 dX10_hasRoom_24 (by decide) ?_
  exact hret _ () _ _ _ (Or.inr rfl) dX10_hasRoom_28 h rfl
abbrev rmX10_sendOn : Room := { frames := 1, cells := 0, slots := 0, locals := 23 }
def wX10_sendOn_152 (fu : Nat) (v_bits : Int32) (v_idle : Int32) (v_parity : Int32) (v_stops : Int32) (v_wide : Int32) (x2 : Int32) (Q : (Nat → Int32) → Prop) (v_a1 : (Nat → Int32)) : Prop := wp_X10_hearOn fu v_idle (v_wide * v_stops) v_a1 (fun (z14 : (Nat → Int32)) => Q z14)
def wX10_sendOn_145 (fu : Nat) (v_bits : Int32) (v_idle : Int32) (v_parity : Int32) (v_stops : Int32) (v_wide : Int32) (x2 : Int32) (Q : (Nat → Int32) → Prop) (k1 : Int32) (v_a1 : (Nat → Int32)) : Prop := wp_X10_hearOn fu k1 v_wide v_a1 (fun (z13 : (Nat → Int32)) => wX10_sendOn_152 fu v_bits v_idle v_parity v_stops v_wide x2 Q z13)
def wX10_sendOn_124 (fu : Nat) (v_bits : Int32) (v_idle : Int32) (v_parity : Int32) (v_stops : Int32) (v_wide : Int32) (x2 : Int32) (Q : (Nat → Int32) → Prop) (k0 : Int32) (v_a1 : (Nat → Int32)) : Prop := (if k0 = 0 then wX10_sendOn_145 fu v_bits v_idle v_parity v_stops v_wide x2 Q ((1 : Int32) - v_idle) v_a1 else wX10_sendOn_145 fu v_bits v_idle v_parity v_stops v_wide x2 Q v_idle v_a1)
def wX10_sendOn_116 (fu : Nat) (v_bits : Int32) (v_idle : Int32) (v_parity : Int32) (v_stops : Int32) (v_wide : Int32) (x2 : Int32) (Q : (Nat → Int32) → Prop) (k0 : Int32) (k1 : Int32) (v_a1 : (Nat → Int32)) : Prop := (if k0 = k1 then wX10_sendOn_124 fu v_bits v_idle v_parity v_stops v_wide x2 Q (1 : Int32) v_a1 else wX10_sendOn_124 fu v_bits v_idle v_parity v_stops v_wide x2 Q (0 : Int32) v_a1)
def wX10_sendOn_103 (fu : Nat) (v_bits : Int32) (v_idle : Int32) (v_parity : Int32) (v_stops : Int32) (v_wide : Int32) (x2 : Int32) (Q : (Nat → Int32) → Prop) (k0 : Int32) (v_a1 : (Nat → Int32)) : Prop := (if v_parity = (1 : Int32) then wX10_sendOn_116 fu v_bits v_idle v_parity v_stops v_wide x2 Q k0 (1 : Int32) v_a1 else wX10_sendOn_116 fu v_bits v_idle v_parity v_stops v_wide x2 Q k0 (0 : Int32) v_a1)
def wX10_sendOn_73 (fu : Nat) (v_bits : Int32) (v_idle : Int32) (v_parity : Int32) (v_stops : Int32) (v_wide : Int32) (x2 : Int32) (Q : (Nat → Int32) → Prop) (K31 : Int32 → Int32 → (Nat → Int32) → Prop) (x3 : Int32) (x4 : Int32) (k1 : Int32) (v_a1 : (Nat → Int32)) : Prop := wp_X10_hearOn fu k1 v_wide v_a1 (fun (z9 : (Nat → Int32)) => K31 x3 (x4 + (1 : Int32)) z9)
def wX10_sendOn_31 (fu : Nat) (v_bits : Int32) (v_idle : Int32) (v_parity : Int32) (v_stops : Int32) (v_wide : Int32) (x2 : Int32) (Q : (Nat → Int32) → Prop) : Nat → Int32 → Int32 → (Nat → Int32) → Prop
  | 0, _, _, _ => False
  | n0 + 1, x3, x4, v_a1 => (if v_bits ≤ x4 then (if v_parity ≤ 0 then wX10_sendOn_152 fu v_bits v_idle v_parity v_stops v_wide x2 Q v_a1 else (if x3 = (1 : Int32) then wX10_sendOn_103 fu v_bits v_idle v_parity v_stops v_wide x2 Q (1 : Int32) v_a1 else wX10_sendOn_103 fu v_bits v_idle v_parity v_stops v_wide x2 Q (0 : Int32) v_a1)) else (∀ y6 : Int32, y6 = ((shr x2 x4) &&& (1 : Int32)) → (∀ y7 : Int32, y7 = (x3 ^^^ y6) → (if y6 = (1 : Int32) then wX10_sendOn_73 fu v_bits v_idle v_parity v_stops v_wide x2 Q (wX10_sendOn_31 fu v_bits v_idle v_parity v_stops v_wide x2 Q n0) y7 x4 v_idle v_a1 else wX10_sendOn_73 fu v_bits v_idle v_parity v_stops v_wide x2 Q (wX10_sendOn_31 fu v_bits v_idle v_parity v_stops v_wide x2 Q n0) y7 x4 ((1 : Int32) - v_idle) v_a1))))
def wp_X10_sendOn (fu : Nat) (v_bits : Int32) (v_idle : Int32) (v_parity : Int32) (v_stops : Int32) (v_wide : Int32) (x2 : Int32) (v_a1 : (Nat → Int32)) (Q : (Nat → Int32) → Prop) : Prop := wp_X10_hearOn fu v_idle v_wide v_a1 (fun (z1 : (Nat → Int32)) => wp_X10_hearOn fu ((1 : Int32) - v_idle) v_wide z1 (fun (z2 : (Nat → Int32)) => wX10_sendOn_31 fu v_bits v_idle v_parity v_stops v_wide x2 Q fu (0 : Int32) (0 : Int32) z2))
set_option maxHeartbeats 4000000 in
set_option maxRecDepth 100000 in
theorem c_X10_sendOn (l : Launch) (D : va_G) (cI cJ cZ cW : ClassId) (o o_text o_now o_trial o_diary o_kept o_isKept o_knownPlace o_knownLetter o_letters o_starts o_bestLetters o_deep o_worth o_readTicks o_a1 : Nat) (v_length : Int32) (v_acts : Int32) (v_next : Int32) (v_known : Int32) (v_seed : Int64) (v_wide : Int32) (v_bits : Int32) (v_parity : Int32) (v_stops : Int32) (v_idle : Int32) (v_frames : Int32) (v_failed : Int32) (v_failedAt : Int32) (v_margin : Int32) (v_bestFrames : Int32) (v_alike : Int32) (v_fitting : Int32) (v_readLevel : Int32) (v_readMany : Int32) (v_part : Int32) (v_ten : Int32) (v_a1 : (Nat → Int32)) (x2 : Int32) (fu : Nat) (Q : (Nat → Int32) → Prop) (h : wp_X10_sendOn fu v_bits v_idle v_parity v_stops v_wide x2 v_a1 Q) : CtV l yX10_sendOn wkX10_sendOn rmX10_sendOn D (tys4 cI cJ cZ cW) [.ref o, .ref o_a1, .int x2] [(o, .inr (10, [.ref o_text, .int v_length, .ref o_now, .ref o_trial, .ref o_diary, .int v_acts, .int v_next, .ref o_kept, .ref o_isKept, .ref o_knownPlace, .ref o_knownLetter, .int v_known, .long v_seed, .int v_wide, .int v_bits, .int v_parity, .int v_stops, .int v_idle, .int v_frames, .int v_failed, .int v_failedAt, .int v_margin, .ref o_letters, .ref o_starts, .int v_bestFrames, .ref o_bestLetters, .int v_alike, .int v_fitting, .ref o_deep, .ref o_worth, .int v_readLevel, .int v_readMany, .ref o_readTicks, .int v_part, .int v_ten])), (o_a1, .inl (cI, 361, .inl v_a1))] (fun (u : (Nat → Int32)) => Q u) (fun (u : (Nat → Int32)) => [(o, .inr (10, [.ref o_text, .int v_length, .ref o_now, .ref o_trial, .ref o_diary, .int v_acts, .int v_next, .ref o_kept, .ref o_isKept, .ref o_knownPlace, .ref o_knownLetter, .int v_known, .long v_seed, .int v_wide, .int v_bits, .int v_parity, .int v_stops, .int v_idle, .int v_frames, .int v_failed, .int v_failedAt, .int v_margin, .ref o_letters, .ref o_starts, .int v_bestFrames, .ref o_bestLetters, .int v_alike, .int v_fitting, .ref o_deep, .ref o_worth, .int v_readLevel, .int v_readMany, .ref o_readTicks, .int v_part, .int v_ten])), (o_a1, .inl (cI, 361, .inl u))]) := by
  refine CtV.of (S := (Nat → Int32)) (y := yX10_sendOn) (Tc := wkX10_sendOn) (rm := rmX10_sendOn) (D := D) (tys := tys4 cI cJ cZ cW) (av := [.ref o, .ref o_a1, .int x2]) (wc := [(o, .inr (10, [.ref o_text, .int v_length, .ref o_now, .ref o_trial, .ref o_diary, .int v_acts, .int v_next, .ref o_kept, .ref o_isKept, .ref o_knownPlace, .ref o_knownLetter, .int v_known, .long v_seed, .int v_wide, .int v_bits, .int v_parity, .int v_stops, .int v_idle, .int v_frames, .int v_failed, .int v_failedAt, .int v_margin, .ref o_letters, .ref o_starts, .int v_bestFrames, .ref o_bestLetters, .int v_alike, .int v_fitting, .ref o_deep, .ref o_worth, .int v_readLevel, .int v_readMany, .ref o_readTicks, .int v_part, .int v_ten])), (o_a1, .inl (cI, 361, .inl v_a1))]) (post := (fun (u : (Nat → Int32)) => Q u)) (w1 := (fun (u : (Nat → Int32)) => [(o, .inr (10, [.ref o_text, .int v_length, .ref o_now, .ref o_trial, .ref o_diary, .int v_acts, .int v_next, .ref o_kept, .ref o_isKept, .ref o_knownPlace, .ref o_knownLetter, .int v_known, .long v_seed, .int v_wide, .int v_bits, .int v_parity, .int v_stops, .int v_idle, .int v_frames, .int v_failed, .int v_failedAt, .int v_margin, .ref o_letters, .ref o_starts, .int v_bestFrames, .ref o_bestLetters, .int v_alike, .int v_fitting, .ref o_deep, .ref o_worth, .int v_readLevel, .int v_readMany, .ref o_readTicks, .int v_part, .int v_ten])), (o_a1, .inl (cI, 361, .inl u))])) (cc := cX10_sendOn) (maxL := 6) RX10 rfl (by decide +kernel) rfl rfl [(0, .ref o), (1, .ref o_a1), (2, .int x2)] rfl ?_
  intro p e s m args below meth c A Qm C hret
  have H152 : ∀ (v_a1 : (Nat → Int32)), wX10_sendOn_152 fu v_bits v_idle v_parity v_stops v_wide x2 Q v_a1 → G p l e rmX10_sendOn s m args below meth c D A 6 0 0 Qm [(o, .inr (10, [.ref o_text, .int v_length, .ref o_now, .ref o_trial, .ref o_diary, .int v_acts, .int v_next, .ref o_kept, .ref o_isKept, .ref o_knownPlace, .ref o_knownLetter, .int v_known, .long v_seed, .int v_wide, .int v_bits, .int v_parity, .int v_stops, .int v_idle, .int v_frames, .int v_failed, .int v_failedAt, .int v_margin, .ref o_letters, .ref o_starts, .int v_bestFrames, .ref o_bestLetters, .int v_alike, .int v_fitting, .ref o_deep, .ref o_worth, .int v_readLevel, .int v_readMany, .ref o_readTicks, .int v_part, .int v_ten])), (o_a1, .inl (cI, 361, .inl v_a1))] [(0, .ref o), (1, .ref o_a1)] 152 [] := by
    intro v_a1 h
    unfold wX10_sendOn_152 at h
    refine g_aload_n C 1 1 o_a1 dX10_sendOn_152 rfl rfl ?_
    refine g_aload_n C 0 0 o dX10_sendOn_153 rfl rfl ?_
    refine g_get C 10 ix_10 0 _ rfl rfl 17 (by decide) wm_412 rfl (.int v_idle) rfl dX10_sendOn_154 ?_
    refine g_aload_n C 0 0 o dX10_sendOn_157 rfl rfl ?_
    refine g_get C 10 ix_10 0 _ rfl rfl 13 (by decide) wm_408 rfl (.int v_wide) rfl dX10_sendOn_158 ?_
    refine g_aload_n C 0 0 o dX10_sendOn_161 rfl rfl ?_
    refine g_get C 10 ix_10 0 _ rfl rfl 16 (by decide) wm_411 rfl (.int v_stops) rfl dX10_sendOn_162 ?_
    refine g_imul C dX10_sendOn_165 ?_
    refine g_callSv (As := [.ref o_a1, .int v_idle, .int (v_wide * v_stops)]) (rest := []) C (c_X10_hearOn l D cI cJ cZ cW o_a1 v_a1 v_idle (v_wide * v_stops) fu _ h) 3 gd_X10_212 rfl rfl rfl (by decide +kernel) ⟨Nat.le_of_ble_eq_true rfl, Nat.le_of_ble_eq_true rfl⟩ ⟨Nat.le_of_ble_eq_true rfl, Nat.le_of_ble_eq_true rfl⟩ rfl rfl (Nat.le_of_ble_eq_true rfl) [1] [none, some 0] rfl rfl rfl dX10_sendOn_166 (fun u h => ?_)
    obtain ⟨z14, rfl⟩ : ∃ z, z = u := ⟨_, rfl⟩
    refine ⟨[(o, .inr (10, [.ref o_text, .int v_length, .ref o_now, .ref o_trial, .ref o_diary, .int v_acts, .int v_next, .ref o_kept, .ref o_isKept, .ref o_knownPlace, .ref o_knownLetter, .int v_known, .long v_seed, .int v_wide, .int v_bits, .int v_parity, .int v_stops, .int v_idle, .int v_frames, .int v_failed, .int v_failedAt, .int v_margin, .ref o_letters, .ref o_starts, .int v_bestFrames, .ref o_bestLetters, .int v_alike, .int v_fitting, .ref o_deep, .ref o_worth, .int v_readLevel, .int v_readMany, .ref o_readTicks, .int v_part, .int v_ten])), (o_a1, .inl (cI, 361, .inl z14))], rfl, rfl, rfl, ?_⟩
    exact hret z14 _ _ _ dX10_sendOn_169 h rfl
  have H145 : ∀ (k1 : Int32) (v_a1 : (Nat → Int32)), wX10_sendOn_145 fu v_bits v_idle v_parity v_stops v_wide x2 Q k1 v_a1 → G p l e rmX10_sendOn s m args below meth c D A 6 0 0 Qm [(o, .inr (10, [.ref o_text, .int v_length, .ref o_now, .ref o_trial, .ref o_diary, .int v_acts, .int v_next, .ref o_kept, .ref o_isKept, .ref o_knownPlace, .ref o_knownLetter, .int v_known, .long v_seed, .int v_wide, .int v_bits, .int v_parity, .int v_stops, .int v_idle, .int v_frames, .int v_failed, .int v_failedAt, .int v_margin, .ref o_letters, .ref o_starts, .int v_bestFrames, .ref o_bestLetters, .int v_alike, .int v_fitting, .ref o_deep, .ref o_worth, .int v_readLevel, .int v_readMany, .ref o_readTicks, .int v_part, .int v_ten])), (o_a1, .inl (cI, 361, .inl v_a1))] [(0, .ref o), (1, .ref o_a1)] 145 [.int k1, .ref o_a1] := by
    intro k1 v_a1 h
    unfold wX10_sendOn_145 at h
    refine g_aload_n C 0 0 o dX10_sendOn_145 rfl rfl ?_
    refine g_get C 10 ix_10 0 _ rfl rfl 13 (by decide) wm_408 rfl (.int v_wide) rfl dX10_sendOn_146 ?_
    refine g_callSv (As := [.ref o_a1, .int k1, .int v_wide]) (rest := []) C (c_X10_hearOn l D cI cJ cZ cW o_a1 v_a1 k1 v_wide fu _ h) 3 gd_X10_212 rfl rfl rfl (by decide +kernel) ⟨Nat.le_of_ble_eq_true rfl, Nat.le_of_ble_eq_true rfl⟩ ⟨Nat.le_of_ble_eq_true rfl, Nat.le_of_ble_eq_true rfl⟩ rfl rfl (Nat.le_of_ble_eq_true rfl) [1] [none, some 0] rfl rfl rfl dX10_sendOn_149 (fun u h => ?_)
    obtain ⟨z13, rfl⟩ : ∃ z, z = u := ⟨_, rfl⟩
    refine ⟨[(o, .inr (10, [.ref o_text, .int v_length, .ref o_now, .ref o_trial, .ref o_diary, .int v_acts, .int v_next, .ref o_kept, .ref o_isKept, .ref o_knownPlace, .ref o_knownLetter, .int v_known, .long v_seed, .int v_wide, .int v_bits, .int v_parity, .int v_stops, .int v_idle, .int v_frames, .int v_failed, .int v_failedAt, .int v_margin, .ref o_letters, .ref o_starts, .int v_bestFrames, .ref o_bestLetters, .int v_alike, .int v_fitting, .ref o_deep, .ref o_worth, .int v_readLevel, .int v_readMany, .ref o_readTicks, .int v_part, .int v_ten])), (o_a1, .inl (cI, 361, .inl z13))], rfl, rfl, rfl, ?_⟩
    refine g_lv [0, 1] rfl ?_
    exact H152  z13 h
  have H124 : ∀ (k0 : Int32) (v_a1 : (Nat → Int32)), wX10_sendOn_124 fu v_bits v_idle v_parity v_stops v_wide x2 Q k0 v_a1 → G p l e rmX10_sendOn s m args below meth c D A 6 0 0 Qm [(o, .inr (10, [.ref o_text, .int v_length, .ref o_now, .ref o_trial, .ref o_diary, .int v_acts, .int v_next, .ref o_kept, .ref o_isKept, .ref o_knownPlace, .ref o_knownLetter, .int v_known, .long v_seed, .int v_wide, .int v_bits, .int v_parity, .int v_stops, .int v_idle, .int v_frames, .int v_failed, .int v_failedAt, .int v_margin, .ref o_letters, .ref o_starts, .int v_bestFrames, .ref o_bestLetters, .int v_alike, .int v_fitting, .ref o_deep, .ref o_worth, .int v_readLevel, .int v_readMany, .ref o_readTicks, .int v_part, .int v_ten])), (o_a1, .inl (cI, 361, .inl v_a1))] [(0, .ref o), (1, .ref o_a1)] 124 [.int k0] := by
    intro k0 v_a1 h
    unfold wX10_sendOn_124 at h
    refine g_istore C [(4, .int k0), (0, .ref o), (1, .ref o_a1)] dX10_sendOn_124 (by decide) rfl ?_
    refine g_aload_n C 1 2 o_a1 dX10_sendOn_126 rfl rfl ?_
    refine g_iload C 4 0 k0 dX10_sendOn_127 rfl ?_
    refine g_if_eq C 139 dX10_sendOn_129 (by decide) (fun c12 => ?_) (fun c12 => ?_)
    rotate_left
    · have h := wp_f c12 h
      refine g_aload_n C 0 1 o dX10_sendOn_132 rfl rfl ?_
      refine g_get C 10 ix_10 0 _ rfl rfl 17 (by decide) wm_412 rfl (.int v_idle) rfl dX10_sendOn_133 ?_
      refine g_goto C 145 dX10_sendOn_136 (by decide) ?_
      refine g_lv [1, 2] rfl ?_
      exact H145  v_idle v_a1 h
    have h := wp_t c12 h
    refine g_iconst C (1 : Int32) dX10_sendOn_139 rfl ?_
    refine g_aload_n C 0 1 o dX10_sendOn_140 rfl rfl ?_
    refine g_get C 10 ix_10 0 _ rfl rfl 17 (by decide) wm_412 rfl (.int v_idle) rfl dX10_sendOn_141 ?_
    refine g_isub C dX10_sendOn_144 ?_
    refine g_lv [1, 2] rfl ?_
    exact H145  ((1 : Int32) - v_idle) v_a1 h
  have H116 : ∀ (k0 : Int32) (k1 : Int32) (v_a1 : (Nat → Int32)), wX10_sendOn_116 fu v_bits v_idle v_parity v_stops v_wide x2 Q k0 k1 v_a1 → G p l e rmX10_sendOn s m args below meth c D A 6 0 0 Qm [(o, .inr (10, [.ref o_text, .int v_length, .ref o_now, .ref o_trial, .ref o_diary, .int v_acts, .int v_next, .ref o_kept, .ref o_isKept, .ref o_knownPlace, .ref o_knownLetter, .int v_known, .long v_seed, .int v_wide, .int v_bits, .int v_parity, .int v_stops, .int v_idle, .int v_frames, .int v_failed, .int v_failedAt, .int v_margin, .ref o_letters, .ref o_starts, .int v_bestFrames, .ref o_bestLetters, .int v_alike, .int v_fitting, .ref o_deep, .ref o_worth, .int v_readLevel, .int v_readMany, .ref o_readTicks, .int v_part, .int v_ten])), (o_a1, .inl (cI, 361, .inl v_a1))] [(0, .ref o), (1, .ref o_a1)] 116 [.int k1, .int k0] := by
    intro k0 k1 v_a1 h
    unfold wX10_sendOn_116 at h
    refine g_icmp_ne C 123 dX10_sendOn_116 (by decide) (fun c11 => ?_) (fun c11 => ?_)
    · have h := wp_f c11 h
      refine g_iconst C (0 : Int32) dX10_sendOn_123 rfl ?_
      refine g_lv [0, 1] rfl ?_
      exact H124  (0 : Int32) v_a1 h
    have h := wp_t c11 h
    refine g_iconst C (1 : Int32) dX10_sendOn_119 rfl ?_
    refine g_goto C 124 dX10_sendOn_120 (by decide) ?_
    refine g_lv [0, 1] rfl ?_
    exact H124  (1 : Int32) v_a1 h
  have H103 : ∀ (k0 : Int32) (v_a1 : (Nat → Int32)), wX10_sendOn_103 fu v_bits v_idle v_parity v_stops v_wide x2 Q k0 v_a1 → G p l e rmX10_sendOn s m args below meth c D A 6 0 0 Qm [(o, .inr (10, [.ref o_text, .int v_length, .ref o_now, .ref o_trial, .ref o_diary, .int v_acts, .int v_next, .ref o_kept, .ref o_isKept, .ref o_knownPlace, .ref o_knownLetter, .int v_known, .long v_seed, .int v_wide, .int v_bits, .int v_parity, .int v_stops, .int v_idle, .int v_frames, .int v_failed, .int v_failedAt, .int v_margin, .ref o_letters, .ref o_starts, .int v_bestFrames, .ref o_bestLetters, .int v_alike, .int v_fitting, .ref o_deep, .ref o_worth, .int v_readLevel, .int v_readMany, .ref o_readTicks, .int v_part, .int v_ten])), (o_a1, .inl (cI, 361, .inl v_a1))] [(0, .ref o), (1, .ref o_a1)] 103 [.int k0] := by
    intro k0 v_a1 h
    unfold wX10_sendOn_103 at h
    refine g_aload_n C 0 0 o dX10_sendOn_103 rfl rfl ?_
    refine g_get C 10 ix_10 0 _ rfl rfl 15 (by decide) wm_410 rfl (.int v_parity) rfl dX10_sendOn_104 ?_
    refine g_iconst C (1 : Int32) dX10_sendOn_107 rfl ?_
    refine g_icmp_ne C 115 dX10_sendOn_108 (by decide) (fun c10 => ?_) (fun c10 => ?_)
    · have h := wp_f c10 h
      refine g_iconst C (0 : Int32) dX10_sendOn_115 rfl ?_
      refine g_lv [0, 1] rfl ?_
      exact H116  k0 (0 : Int32) v_a1 h
    have h := wp_t c10 h
    refine g_iconst C (1 : Int32) dX10_sendOn_111 rfl ?_
    refine g_goto C 116 dX10_sendOn_112 (by decide) ?_
    refine g_lv [0, 1] rfl ?_
    exact H116  k0 (1 : Int32) v_a1 h
  have H31 : ∀ (n31 : Nat) (x3 : Int32) (x4 : Int32) (v_a1 : (Nat → Int32)), wX10_sendOn_31 fu v_bits v_idle v_parity v_stops v_wide x2 Q n31 x3 x4 v_a1 → G p l e rmX10_sendOn s m args below meth c D A 6 0 0 Qm [(o, .inr (10, [.ref o_text, .int v_length, .ref o_now, .ref o_trial, .ref o_diary, .int v_acts, .int v_next, .ref o_kept, .ref o_isKept, .ref o_knownPlace, .ref o_knownLetter, .int v_known, .long v_seed, .int v_wide, .int v_bits, .int v_parity, .int v_stops, .int v_idle, .int v_frames, .int v_failed, .int v_failedAt, .int v_margin, .ref o_letters, .ref o_starts, .int v_bestFrames, .ref o_bestLetters, .int v_alike, .int v_fitting, .ref o_deep, .ref o_worth, .int v_readLevel, .int v_readMany, .ref o_readTicks, .int v_part, .int v_ten])), (o_a1, .inl (cI, 361, .inl v_a1))] [(0, .ref o), (1, .ref o_a1), (2, .int x2), (3, .int x3), (4, .int x4)] 31 [] := by
    intro n31
    induction n31 with
    | zero => intro x3 x4 v_a1 h; exact False.elim h
    | succ n31 ih31 =>
      have H73 : ∀ (x3 : Int32) (x4 : Int32) (k1 : Int32) (v_a1 : (Nat → Int32)), wX10_sendOn_73 fu v_bits v_idle v_parity v_stops v_wide x2 Q (wX10_sendOn_31 fu v_bits v_idle v_parity v_stops v_wide x2 Q n31) x3 x4 k1 v_a1 → G p l e rmX10_sendOn s m args below meth c D A 6 0 0 Qm [(o, .inr (10, [.ref o_text, .int v_length, .ref o_now, .ref o_trial, .ref o_diary, .int v_acts, .int v_next, .ref o_kept, .ref o_isKept, .ref o_knownPlace, .ref o_knownLetter, .int v_known, .long v_seed, .int v_wide, .int v_bits, .int v_parity, .int v_stops, .int v_idle, .int v_frames, .int v_failed, .int v_failedAt, .int v_margin, .ref o_letters, .ref o_starts, .int v_bestFrames, .ref o_bestLetters, .int v_alike, .int v_fitting, .ref o_deep, .ref o_worth, .int v_readLevel, .int v_readMany, .ref o_readTicks, .int v_part, .int v_ten])), (o_a1, .inl (cI, 361, .inl v_a1))] [(0, .ref o), (1, .ref o_a1), (2, .int x2), (3, .int x3), (4, .int x4)] 73 [.int k1, .ref o_a1] := by
        intro x3 x4 k1 v_a1 h
        unfold wX10_sendOn_73 at h
        refine g_aload_n C 0 0 o dX10_sendOn_73 rfl rfl ?_
        refine g_get C 10 ix_10 0 _ rfl rfl 13 (by decide) wm_408 rfl (.int v_wide) rfl dX10_sendOn_74 ?_
        refine g_callSv (As := [.ref o_a1, .int k1, .int v_wide]) (rest := []) C (c_X10_hearOn l D cI cJ cZ cW o_a1 v_a1 k1 v_wide fu _ h) 3 gd_X10_212 rfl rfl rfl (by decide +kernel) ⟨Nat.le_of_ble_eq_true rfl, Nat.le_of_ble_eq_true rfl⟩ ⟨Nat.le_of_ble_eq_true rfl, Nat.le_of_ble_eq_true rfl⟩ rfl rfl (Nat.le_of_ble_eq_true rfl) [1] [none, some 0] rfl rfl rfl dX10_sendOn_77 (fun u h => ?_)
        obtain ⟨z9, rfl⟩ : ∃ z, z = u := ⟨_, rfl⟩
        refine ⟨[(o, .inr (10, [.ref o_text, .int v_length, .ref o_now, .ref o_trial, .ref o_diary, .int v_acts, .int v_next, .ref o_kept, .ref o_isKept, .ref o_knownPlace, .ref o_knownLetter, .int v_known, .long v_seed, .int v_wide, .int v_bits, .int v_parity, .int v_stops, .int v_idle, .int v_frames, .int v_failed, .int v_failedAt, .int v_margin, .ref o_letters, .ref o_starts, .int v_bestFrames, .ref o_bestLetters, .int v_alike, .int v_fitting, .ref o_deep, .ref o_worth, .int v_readLevel, .int v_readMany, .ref o_readTicks, .int v_part, .int v_ten])), (o_a1, .inl (cI, 361, .inl z9))], rfl, rfl, rfl, ?_⟩
        refine g_iinc C 4 x4 (x4 + (1 : Int32)) [(4, .int (x4 + (1 : Int32))), (0, .ref o), (1, .ref o_a1), (2, .int x2), (3, .int x3)] dX10_sendOn_80 rfl rfl (by decide) rfl ?_
        refine g_goto C 31 dX10_sendOn_83 (by decide) ?_
        refine g_lv [1, 2, 3, 4, 0] rfl ?_
        exact ih31  x3 (x4 + (1 : Int32)) z9 h
      intro x3 x4 v_a1 h
      unfold wX10_sendOn_31 at h
      refine g_iload C 4 4 x4 dX10_sendOn_31 rfl ?_
      refine g_aload_n C 0 0 o dX10_sendOn_33 rfl rfl ?_
      refine g_get C 10 ix_10 0 _ rfl rfl 14 (by decide) wm_409 rfl (.int v_bits) rfl dX10_sendOn_34 ?_
      refine g_icmp_ge C 86 dX10_sendOn_37 (by decide) (fun c3 => ?_) (fun c3 => ?_)
      · have h := wp_t c3 h
        refine g_aload_n C 0 0 o dX10_sendOn_86 rfl rfl ?_
        refine g_get C 10 ix_10 0 _ rfl rfl 15 (by decide) wm_410 rfl (.int v_parity) rfl dX10_sendOn_87 ?_
        refine g_if_le C 152 dX10_sendOn_90 (by decide) (fun c4 => ?_) (fun c4 => ?_)
        · have h := wp_t c4 h
          refine g_lv [0, 1] rfl ?_
          exact H152  v_a1 h
        have h := wp_f c4 h
        refine g_iload_n C 3 3 x3 dX10_sendOn_93 rfl rfl ?_
        refine g_iconst C (1 : Int32) dX10_sendOn_94 rfl ?_
        refine g_icmp_ne C 102 dX10_sendOn_95 (by decide) (fun c5 => ?_) (fun c5 => ?_)
        · have h := wp_f c5 h
          refine g_iconst C (0 : Int32) dX10_sendOn_102 rfl ?_
          refine g_lv [0, 1] rfl ?_
          exact H103  (0 : Int32) v_a1 h
        have h := wp_t c5 h
        refine g_iconst C (1 : Int32) dX10_sendOn_98 rfl ?_
        refine g_goto C 103 dX10_sendOn_99 (by decide) ?_
        refine g_lv [0, 1] rfl ?_
        exact H103  (1 : Int32) v_a1 h
      have h := wp_f c3 h
      refine g_iload_n C 2 2 x2 dX10_sendOn_40 rfl rfl ?_
      refine g_iload C 4 4 x4 dX10_sendOn_41 rfl ?_
      refine g_ishr C dX10_sendOn_43 ?_
      refine g_iconst C (1 : Int32) dX10_sendOn_44 rfl ?_
      refine g_iand C dX10_sendOn_45 ?_
      refine g_topi (fun y6 ey6 => ?_)
      have h := h y6 ey6
      refine g_istore C [(5, .int y6), (0, .ref o), (1, .ref o_a1), (2, .int x2), (3, .int x3), (4, .int x4)] dX10_sendOn_46 (by decide) rfl ?_
      refine g_iload_n C 3 4 x3 dX10_sendOn_48 rfl rfl ?_
      refine g_iload C 5 0 y6 dX10_sendOn_49 rfl ?_
      refine g_ixor C dX10_sendOn_51 ?_
      refine g_topi (fun y7 ey7 => ?_)
      have h := h y7 ey7
      refine g_istore_n C [(3, .int y7), (5, .int y6), (0, .ref o), (1, .ref o_a1), (2, .int x2), (4, .int x4)] dX10_sendOn_52 rfl (by decide) rfl ?_
      refine g_aload_n C 1 3 o_a1 dX10_sendOn_53 rfl rfl ?_
      refine g_iload C 5 1 y6 dX10_sendOn_54 rfl ?_
      refine g_iconst C (1 : Int32) dX10_sendOn_56 rfl ?_
      refine g_icmp_ne C 67 dX10_sendOn_57 (by decide) (fun c8 => ?_) (fun c8 => ?_)
      rotate_left
      · have h := wp_t c8 h
        refine g_aload_n C 0 2 o dX10_sendOn_60 rfl rfl ?_
        refine g_get C 10 ix_10 0 _ rfl rfl 17 (by decide) wm_412 rfl (.int v_idle) rfl dX10_sendOn_61 ?_
        refine g_goto C 73 dX10_sendOn_64 (by decide) ?_
        refine g_lv [2, 3, 4, 0, 5] rfl ?_
        exact H73  y7 x4 v_idle v_a1 h
      have h := wp_f c8 h
      refine g_iconst C (1 : Int32) dX10_sendOn_67 rfl ?_
      refine g_aload_n C 0 2 o dX10_sendOn_68 rfl rfl ?_
      refine g_get C 10 ix_10 0 _ rfl rfl 17 (by decide) wm_412 rfl (.int v_idle) rfl dX10_sendOn_69 ?_
      refine g_isub C dX10_sendOn_72 ?_
      refine g_lv [2, 3, 4, 0, 5] rfl ?_
      exact H73  y7 x4 ((1 : Int32) - v_idle) v_a1 h
  unfold wp_X10_sendOn at h
  refine g_iconst C (0 : Int32) dX10_sendOn_0 rfl ?_
  refine g_istore_n C [(3, .int (0 : Int32)), (0, .ref o), (1, .ref o_a1), (2, .int x2)] dX10_sendOn_1 rfl (by decide) rfl ?_
  refine g_aload_n C 1 2 o_a1 dX10_sendOn_2 rfl rfl ?_
  refine g_aload_n C 0 1 o dX10_sendOn_3 rfl rfl ?_
  refine g_get C 10 ix_10 0 _ rfl rfl 17 (by decide) wm_412 rfl (.int v_idle) rfl dX10_sendOn_4 ?_
  refine g_aload_n C 0 1 o dX10_sendOn_7 rfl rfl ?_
  refine g_get C 10 ix_10 0 _ rfl rfl 13 (by decide) wm_408 rfl (.int v_wide) rfl dX10_sendOn_8 ?_
  refine g_callSv (As := [.ref o_a1, .int v_idle, .int v_wide]) (rest := []) C (c_X10_hearOn l D cI cJ cZ cW o_a1 v_a1 v_idle v_wide fu _ h) 3 gd_X10_212 rfl rfl rfl (by decide +kernel) ⟨Nat.le_of_ble_eq_true rfl, Nat.le_of_ble_eq_true rfl⟩ ⟨Nat.le_of_ble_eq_true rfl, Nat.le_of_ble_eq_true rfl⟩ rfl rfl (Nat.le_of_ble_eq_true rfl) [1] [none, some 0] rfl rfl rfl dX10_sendOn_11 (fun u h => ?_)
  obtain ⟨z1, rfl⟩ : ∃ z, z = u := ⟨_, rfl⟩
  refine ⟨[(o, .inr (10, [.ref o_text, .int v_length, .ref o_now, .ref o_trial, .ref o_diary, .int v_acts, .int v_next, .ref o_kept, .ref o_isKept, .ref o_knownPlace, .ref o_knownLetter, .int v_known, .long v_seed, .int v_wide, .int v_bits, .int v_parity, .int v_stops, .int v_idle, .int v_frames, .int v_failed, .int v_failedAt, .int v_margin, .ref o_letters, .ref o_starts, .int v_bestFrames, .ref o_bestLetters, .int v_alike, .int v_fitting, .ref o_deep, .ref o_worth, .int v_readLevel, .int v_readMany, .ref o_readTicks, .int v_part, .int v_ten])), (o_a1, .inl (cI, 361, .inl z1))], rfl, rfl, rfl, ?_⟩
  refine g_aload_n C 1 2 o_a1 dX10_sendOn_14 rfl rfl ?_
  refine g_iconst C (1 : Int32) dX10_sendOn_15 rfl ?_
  refine g_aload_n C 0 1 o dX10_sendOn_16 rfl rfl ?_
  refine g_get C 10 ix_10 0 _ rfl rfl 17 (by decide) wm_412 rfl (.int v_idle) rfl dX10_sendOn_17 ?_
  refine g_isub C dX10_sendOn_20 ?_
  refine g_aload_n C 0 1 o dX10_sendOn_21 rfl rfl ?_
  refine g_get C 10 ix_10 0 _ rfl rfl 13 (by decide) wm_408 rfl (.int v_wide) rfl dX10_sendOn_22 ?_
  refine g_callSv (As := [.ref o_a1, .int ((1 : Int32) - v_idle), .int v_wide]) (rest := []) C (c_X10_hearOn l D cI cJ cZ cW o_a1 z1 ((1 : Int32) - v_idle) v_wide fu _ h) 3 gd_X10_212 rfl rfl rfl (by decide +kernel) ⟨Nat.le_of_ble_eq_true rfl, Nat.le_of_ble_eq_true rfl⟩ ⟨Nat.le_of_ble_eq_true rfl, Nat.le_of_ble_eq_true rfl⟩ rfl rfl (Nat.le_of_ble_eq_true rfl) [1] [none, some 0] rfl rfl rfl dX10_sendOn_25 (fun u h => ?_)
  obtain ⟨z2, rfl⟩ : ∃ z, z = u := ⟨_, rfl⟩
  refine ⟨[(o, .inr (10, [.ref o_text, .int v_length, .ref o_now, .ref o_trial, .ref o_diary, .int v_acts, .int v_next, .ref o_kept, .ref o_isKept, .ref o_knownPlace, .ref o_knownLetter, .int v_known, .long v_seed, .int v_wide, .int v_bits, .int v_parity, .int v_stops, .int v_idle, .int v_frames, .int v_failed, .int v_failedAt, .int v_margin, .ref o_letters, .ref o_starts, .int v_bestFrames, .ref o_bestLetters, .int v_alike, .int v_fitting, .ref o_deep, .ref o_worth, .int v_readLevel, .int v_readMany, .ref o_readTicks, .int v_part, .int v_ten])), (o_a1, .inl (cI, 361, .inl z2))], rfl, rfl, rfl, ?_⟩
  refine g_iconst C (0 : Int32) dX10_sendOn_28 rfl ?_
  refine g_istore C [(4, .int (0 : Int32)), (3, .int (0 : Int32)), (0, .ref o), (1, .ref o_a1), (2, .int x2)] dX10_sendOn_29 (by decide) rfl ?_
  refine g_lv [2, 3, 4, 1, 0] rfl ?_
  exact H31 fu  (0 : Int32) (0 : Int32) z2 h
abbrev rmX10_send : Room := { frames := 2, cells := 0, slots := 0, locals := 48 }
def wp_X10_send (fu : Nat) (x1 : Int32) (x2 : Int32) (v_acts : Int32) (v_bits : Int32) (v_idle : Int32) (v_next : Int32) (v_parity : Int32) (v_stops : Int32) (v_wide : Int32) (v_diary : (Nat → Int32)) (v_now : (Nat → Int32)) (Q : Int32 → Int32 → Int32 → Int32 → Int32 → Int32 → Int32 → Int32 → (Nat → Int32) → (Nat → Int32) → Prop) : Prop := wp_X10_layCode fu x1 v_bits v_idle v_parity v_stops v_wide (fun (r6 : Int32) (z1 : Int32) (z2 : Int32) (z3 : Int32) (z4 : Int32) (z5 : Int32) => (if r6 = 0 then Q (-2 : Int32) v_acts z1 z2 v_next z3 z4 z5 v_diary v_now else wp_X10_in fu (Int32.toInt64 x2) (0 : Int64) (255 : Int64) (fun (r8 : Int32) => (if r8 = 0 then Q (-2 : Int32) v_acts z1 z2 v_next z3 z4 z5 v_diary v_now else wp_X10_hasRoom fu z1 z3 z4 z5 v_now (fun (r10 : Int32) => (if r10 = 0 then Q (-4 : Int32) v_acts z1 z2 v_next z3 z4 z5 v_diary v_now else wp_X10_note fu v_now v_acts v_next v_diary (fun (z12 : Int32) (z13 : Int32) (z14 : (Nat → Int32)) => wp_X10_sendOn fu z1 z2 z3 z4 z5 x2 v_now (fun (z15 : (Nat → Int32)) => Q (z15 (ix (360 : Int32))) z12 z1 z2 z13 z3 z4 z5 z14 z15))))))))
set_option maxHeartbeats 4000000 in
set_option maxRecDepth 100000 in
theorem c_X10_send (l : Launch) (D : va_G) (cI cJ cZ cW : ClassId) (o o_text o_now o_trial o_diary o_kept o_isKept o_knownPlace o_knownLetter o_letters o_starts o_bestLetters o_deep o_worth o_readTicks : Nat) (v_length : Int32) (v_acts : Int32) (v_next : Int32) (v_known : Int32) (v_seed : Int64) (v_wide : Int32) (v_bits : Int32) (v_parity : Int32) (v_stops : Int32) (v_idle : Int32) (v_frames : Int32) (v_failed : Int32) (v_failedAt : Int32) (v_margin : Int32) (v_bestFrames : Int32) (v_alike : Int32) (v_fitting : Int32) (v_readLevel : Int32) (v_readMany : Int32) (v_part : Int32) (v_ten : Int32) (v_diary : (Nat → Int32)) (v_now : (Nat → Int32)) (x1 : Int32) (x2 : Int32) (fu : Nat) (Q : Int32 → Int32 → Int32 → Int32 → Int32 → Int32 → Int32 → Int32 → (Nat → Int32) → (Nat → Int32) → Prop) (h : wp_X10_send fu x1 x2 v_acts v_bits v_idle v_next v_parity v_stops v_wide v_diary v_now Q) : CtI l yX10_send wkX10_send rmX10_send D (tys4 cI cJ cZ cW) [.ref o, .int x1, .int x2] [(o, .inr (10, [.ref o_text, .int v_length, .ref o_now, .ref o_trial, .ref o_diary, .int v_acts, .int v_next, .ref o_kept, .ref o_isKept, .ref o_knownPlace, .ref o_knownLetter, .int v_known, .long v_seed, .int v_wide, .int v_bits, .int v_parity, .int v_stops, .int v_idle, .int v_frames, .int v_failed, .int v_failedAt, .int v_margin, .ref o_letters, .ref o_starts, .int v_bestFrames, .ref o_bestLetters, .int v_alike, .int v_fitting, .ref o_deep, .ref o_worth, .int v_readLevel, .int v_readMany, .ref o_readTicks, .int v_part, .int v_ten])), (o_diary, .inl (cI, 5054, .inl v_diary)), (o_now, .inl (cI, 361, .inl v_now))] (fun (r : Int32) (u : Int32 × Int32 × Int32 × Int32 × Int32 × Int32 × Int32 × (Nat → Int32) × (Nat → Int32)) => Q r u.1 u.2.1 u.2.2.1 u.2.2.2.1 u.2.2.2.2.1 u.2.2.2.2.2.1 u.2.2.2.2.2.2.1 u.2.2.2.2.2.2.2.1 u.2.2.2.2.2.2.2.2) (fun (u : Int32 × Int32 × Int32 × Int32 × Int32 × Int32 × Int32 × (Nat → Int32) × (Nat → Int32)) => [(o, .inr (10, [.ref o_text, .int v_length, .ref o_now, .ref o_trial, .ref o_diary, .int u.1, .int u.2.2.2.1, .ref o_kept, .ref o_isKept, .ref o_knownPlace, .ref o_knownLetter, .int v_known, .long v_seed, .int u.2.2.2.2.2.2.1, .int u.2.1, .int u.2.2.2.2.1, .int u.2.2.2.2.2.1, .int u.2.2.1, .int v_frames, .int v_failed, .int v_failedAt, .int v_margin, .ref o_letters, .ref o_starts, .int v_bestFrames, .ref o_bestLetters, .int v_alike, .int v_fitting, .ref o_deep, .ref o_worth, .int v_readLevel, .int v_readMany, .ref o_readTicks, .int v_part, .int v_ten])), (o_diary, .inl (cI, 5054, .inl u.2.2.2.2.2.2.2.1)), (o_now, .inl (cI, 361, .inl u.2.2.2.2.2.2.2.2))]) := by
  refine CtI.of (S := Int32 × Int32 × Int32 × Int32 × Int32 × Int32 × Int32 × (Nat → Int32) × (Nat → Int32)) (y := yX10_send) (Tc := wkX10_send) (rm := rmX10_send) (D := D) (tys := tys4 cI cJ cZ cW) (av := [.ref o, .int x1, .int x2]) (wc := [(o, .inr (10, [.ref o_text, .int v_length, .ref o_now, .ref o_trial, .ref o_diary, .int v_acts, .int v_next, .ref o_kept, .ref o_isKept, .ref o_knownPlace, .ref o_knownLetter, .int v_known, .long v_seed, .int v_wide, .int v_bits, .int v_parity, .int v_stops, .int v_idle, .int v_frames, .int v_failed, .int v_failedAt, .int v_margin, .ref o_letters, .ref o_starts, .int v_bestFrames, .ref o_bestLetters, .int v_alike, .int v_fitting, .ref o_deep, .ref o_worth, .int v_readLevel, .int v_readMany, .ref o_readTicks, .int v_part, .int v_ten])), (o_diary, .inl (cI, 5054, .inl v_diary)), (o_now, .inl (cI, 361, .inl v_now))]) (post := (fun (r : Int32) (u : Int32 × Int32 × Int32 × Int32 × Int32 × Int32 × Int32 × (Nat → Int32) × (Nat → Int32)) => Q r u.1 u.2.1 u.2.2.1 u.2.2.2.1 u.2.2.2.2.1 u.2.2.2.2.2.1 u.2.2.2.2.2.2.1 u.2.2.2.2.2.2.2.1 u.2.2.2.2.2.2.2.2)) (w1 := (fun (u : Int32 × Int32 × Int32 × Int32 × Int32 × Int32 × Int32 × (Nat → Int32) × (Nat → Int32)) => [(o, .inr (10, [.ref o_text, .int v_length, .ref o_now, .ref o_trial, .ref o_diary, .int u.1, .int u.2.2.2.1, .ref o_kept, .ref o_isKept, .ref o_knownPlace, .ref o_knownLetter, .int v_known, .long v_seed, .int u.2.2.2.2.2.2.1, .int u.2.1, .int u.2.2.2.2.1, .int u.2.2.2.2.2.1, .int u.2.2.1, .int v_frames, .int v_failed, .int v_failedAt, .int v_margin, .ref o_letters, .ref o_starts, .int v_bestFrames, .ref o_bestLetters, .int v_alike, .int v_fitting, .ref o_deep, .ref o_worth, .int v_readLevel, .int v_readMany, .ref o_readTicks, .int v_part, .int v_ten])), (o_diary, .inl (cI, 5054, .inl u.2.2.2.2.2.2.2.1)), (o_now, .inl (cI, 361, .inl u.2.2.2.2.2.2.2.2))])) (cc := cX10_send) (maxL := 3) RX10 rfl (by decide +kernel) rfl rfl [(0, .ref o), (1, .int x1), (2, .int x2)] rfl ?_
  intro p e s m args below meth c A Qm C hret
  unfold wp_X10_send at h
  refine g_aload_n C 0 0 o dX10_send_0 rfl rfl ?_
  refine g_iload_n C 1 1 x1 dX10_send_1 rfl rfl ?_
  refine g_callVi (As := [.int x1]) (rest := []) C (c_X10_layCode l D cI cJ cZ cW o o_text o_now o_trial o_diary o_kept o_isKept o_knownPlace o_knownLetter o_letters o_starts o_bestLetters o_deep o_worth o_readTicks v_length v_acts v_next v_known v_seed v_wide v_bits v_parity v_stops v_idle v_frames v_failed v_failedAt v_margin v_bestFrames v_alike v_fitting v_readLevel v_readMany v_part v_ten x1 fu _ h) 1 gd_X10_152 rfl rfl rfl (by decide +kernel) ⟨Nat.le_of_ble_eq_true rfl, Nat.le_of_ble_eq_true rfl⟩ ⟨Nat.le_of_ble_eq_true rfl, Nat.le_of_ble_eq_true rfl⟩ 10 0 rfl rfl rfl rfl (Nat.le_of_ble_eq_true rfl) [0] [some 0, none, none] rfl rfl rfl dX10_send_2 (fun r6 u h => ?_)
  obtain ⟨z1, z2, z3, z4, z5⟩ := u
  obtain ⟨hzr6, h⟩ := h
  refine ⟨[(o, .inr (10, [.ref o_text, .int v_length, .ref o_now, .ref o_trial, .ref o_diary, .int v_acts, .int v_next, .ref o_kept, .ref o_isKept, .ref o_knownPlace, .ref o_knownLetter, .int v_known, .long v_seed, .int z5, .int z1, .int z3, .int z4, .int z2, .int v_frames, .int v_failed, .int v_failedAt, .int v_margin, .ref o_letters, .ref o_starts, .int v_bestFrames, .ref o_bestLetters, .int v_alike, .int v_fitting, .ref o_deep, .ref o_worth, .int v_readLevel, .int v_readMany, .ref o_readTicks, .int v_part, .int v_ten])), (o_diary, .inl (cI, 5054, .inl v_diary)), (o_now, .inl (cI, 361, .inl v_now))], rfl, rfl, rfl, ?_⟩
  refine g_if_eq C 20 dX10_send_5 (by decide) (fun c7 => ?_) (fun c7 => ?_)
  · have h := wp_t c7 h
    refine g_bipush C (-2 : Int32) dX10_send_20 rfl ?_
    exact hret _ (v_acts, z1, z2, v_next, z3, z4, z5, v_diary, v_now) _ _ _ dX10_send_22 h rfl
  have h := wp_f c7 h
  refine g_iload_n C 2 2 x2 dX10_send_8 rfl rfl ?_
  refine g_i2l C dX10_send_9 ?_
  refine g_lconst C (0 : Int64) dX10_send_10 rfl ?_
  refine g_ldc2 C (255 : Int64) wm_161 dX10_send_11 ?_
  refine g_callSi0 (As := [.long (Int32.toInt64 x2), .long (0 : Int64), .long (255 : Int64)]) (rest := []) C (c_X10_in l D cI cJ cZ cW (Int32.toInt64 x2) (0 : Int64) (255 : Int64) fu _ h) 3 gd_X10_53 rfl rfl rfl (by decide +kernel) ⟨Nat.le_of_ble_eq_true rfl, Nat.le_of_ble_eq_true rfl⟩ ⟨Nat.le_of_ble_eq_true rfl, Nat.le_of_ble_eq_true rfl⟩ rfl rfl (Nat.le_of_ble_eq_true rfl) [] rfl rfl dX10_send_14 (fun r8 h => ?_)
  obtain ⟨hzr8, h⟩ := h
  refine g_if_ne C 23 dX10_send_17 (by decide) (fun c9 => ?_) (fun c9 => ?_)
  rotate_left
  · have h := wp_t c9 h
    refine g_bipush C (-2 : Int32) dX10_send_20 rfl ?_
    exact hret _ (v_acts, z1, z2, v_next, z3, z4, z5, v_diary, v_now) _ _ _ dX10_send_22 h rfl
  have h := wp_f c9 h
  refine g_aload_n C 0 0 o dX10_send_23 rfl rfl ?_
  refine g_aload_n C 0 0 o dX10_send_24 rfl rfl ?_
  refine g_get C 10 ix_10 0 _ rfl rfl 2 (by decide) wm_128 rfl (.ref o_now) rfl dX10_send_25 ?_
  refine g_callVi0 (As := [.ref o_now]) (rest := []) C (c_X10_hasRoom l D cI cJ cZ cW o o_text o_now o_trial o_diary o_kept o_isKept o_knownPlace o_knownLetter o_letters o_starts o_bestLetters o_deep o_worth o_readTicks o_now v_length v_acts v_next v_known v_seed z5 z1 z3 z4 z2 v_frames v_failed v_failedAt v_margin v_bestFrames v_alike v_fitting v_readLevel v_readMany v_part v_ten v_now fu _ h) 1 gd_X10_216 rfl rfl rfl (by decide +kernel) ⟨Nat.le_of_ble_eq_true rfl, Nat.le_of_ble_eq_true rfl⟩ ⟨Nat.le_of_ble_eq_true rfl, Nat.le_of_ble_eq_true rfl⟩ 10 0 rfl rfl rfl rfl (Nat.le_of_ble_eq_true rfl) [0, 2] rfl rfl dX10_send_28 (fun r10 h => ?_)
  obtain ⟨hzr10, h⟩ := h
  refine g_if_ne C 37 dX10_send_31 (by decide) (fun c11 => ?_) (fun c11 => ?_)
  rotate_left
  · have h := wp_t c11 h
    refine g_bipush C (-4 : Int32) dX10_send_34 rfl ?_
    exact hret _ (v_acts, z1, z2, v_next, z3, z4, z5, v_diary, v_now) _ _ _ dX10_send_36 h rfl
  have h := wp_f c11 h
  refine g_aload_n C 0 0 o dX10_send_37 rfl rfl ?_
  refine g_callVv (As := []) (rest := []) C (c_X10_note l D cI cJ cZ cW o o_text o_now o_trial o_diary o_kept o_isKept o_knownPlace o_knownLetter o_letters o_starts o_bestLetters o_deep o_worth o_readTicks v_length v_acts v_next v_known v_seed z5 z1 z3 z4 z2 v_frames v_failed v_failedAt v_margin v_bestFrames v_alike v_fitting v_readLevel v_readMany v_part v_ten v_diary v_now fu _ h) 0 gd_X10_209 rfl rfl rfl (by decide +kernel) ⟨Nat.le_of_ble_eq_true rfl, Nat.le_of_ble_eq_true rfl⟩ ⟨Nat.le_of_ble_eq_true rfl, Nat.le_of_ble_eq_true rfl⟩ 10 0 rfl rfl rfl rfl (Nat.le_of_ble_eq_true rfl) [0, 1, 2] [some 0, some 1, some 2] rfl rfl rfl dX10_send_38 (fun u h => ?_)
  obtain ⟨z12, z13, z14⟩ := u
  refine ⟨[(o, .inr (10, [.ref o_text, .int v_length, .ref o_now, .ref o_trial, .ref o_diary, .int z12, .int z13, .ref o_kept, .ref o_isKept, .ref o_knownPlace, .ref o_knownLetter, .int v_known, .long v_seed, .int z5, .int z1, .int z3, .int z4, .int z2, .int v_frames, .int v_failed, .int v_failedAt, .int v_margin, .ref o_letters, .ref o_starts, .int v_bestFrames, .ref o_bestLetters, .int v_alike, .int v_fitting, .ref o_deep, .ref o_worth, .int v_readLevel, .int v_readMany, .ref o_readTicks, .int v_part, .int v_ten])), (o_diary, .inl (cI, 5054, .inl z14)), (o_now, .inl (cI, 361, .inl v_now))], rfl, rfl, rfl, ?_⟩
  refine g_aload_n C 0 0 o dX10_send_41 rfl rfl ?_
  refine g_aload_n C 0 0 o dX10_send_42 rfl rfl ?_
  refine g_get C 10 ix_10 0 _ rfl rfl 2 (by decide) wm_128 rfl (.ref o_now) rfl dX10_send_43 ?_
  refine g_iload_n C 2 2 x2 dX10_send_46 rfl rfl ?_
  refine g_callVv (As := [.ref o_now, .int x2]) (rest := []) C (c_X10_sendOn l D cI cJ cZ cW o o_text o_now o_trial o_diary o_kept o_isKept o_knownPlace o_knownLetter o_letters o_starts o_bestLetters o_deep o_worth o_readTicks o_now v_length z12 z13 v_known v_seed z5 z1 z3 z4 z2 v_frames v_failed v_failedAt v_margin v_bestFrames v_alike v_fitting v_readLevel v_readMany v_part v_ten v_now x2 fu _ h) 2 gd_X10_220 rfl rfl rfl (by decide +kernel) ⟨Nat.le_of_ble_eq_true rfl, Nat.le_of_ble_eq_true rfl⟩ ⟨Nat.le_of_ble_eq_true rfl, Nat.le_of_ble_eq_true rfl⟩ 10 0 rfl rfl rfl rfl (Nat.le_of_ble_eq_true rfl) [0, 2] [some 0, none, some 1] rfl rfl rfl dX10_send_47 (fun u h => ?_)
  obtain ⟨z15, rfl⟩ : ∃ z, z = u := ⟨_, rfl⟩
  refine ⟨[(o, .inr (10, [.ref o_text, .int v_length, .ref o_now, .ref o_trial, .ref o_diary, .int z12, .int z13, .ref o_kept, .ref o_isKept, .ref o_knownPlace, .ref o_knownLetter, .int v_known, .long v_seed, .int z5, .int z1, .int z3, .int z4, .int z2, .int v_frames, .int v_failed, .int v_failedAt, .int v_margin, .ref o_letters, .ref o_starts, .int v_bestFrames, .ref o_bestLetters, .int v_alike, .int v_fitting, .ref o_deep, .ref o_worth, .int v_readLevel, .int v_readMany, .ref o_readTicks, .int v_part, .int v_ten])), (o_diary, .inl (cI, 5054, .inl z14)), (o_now, .inl (cI, 361, .inl z15))], rfl, rfl, rfl, ?_⟩
  refine g_aload_n C 0 0 o dX10_send_50 rfl rfl ?_
  refine g_get C 10 ix_10 0 _ rfl rfl 2 (by decide) wm_128 rfl (.ref o_now) rfl dX10_send_51 ?_
  refine g_sipush C (360 : Int32) dX10_send_54 rfl ?_
  refine g_iald C 2 0 cI 361 z15 rfl rfl (vp_in_dec rfl) dX10_send_57 ?_
  exact hret _ (z12, z1, z2, z13, z3, z4, z5, z14, z15) _ _ _ dX10_send_58 h rfl
abbrev rmX10_flip : Room := { frames := 2, cells := 0, slots := 0, locals := 46 }
def wp_X10_flip (fu : Nat) (x1 : Int32) (v_acts : Int32) (v_next : Int32) (v_diary : (Nat → Int32)) (v_now : (Nat → Int32)) (Q : Int32 → Int32 → Int32 → (Nat → Int32) → (Nat → Int32) → Prop) : Prop := wp_X10_isTick fu v_now x1 (fun (r1 : Int32) => (if r1 = 0 then Q (-1 : Int32) v_acts v_next v_diary v_now else wp_X10_note fu v_now v_acts v_next v_diary (fun (z3 : Int32) (z4 : Int32) (z5 : (Nat → Int32)) => (vp_in x1 361 ∧ (vp_in x1 361 ∧ (vp_in x1 361 ∧ Q ((upd v_now (ix x1) ((1 : Int32) - (v_now (ix x1)))) (ix x1)) z3 z4 z5 (upd v_now (ix x1) ((1 : Int32) - (v_now (ix x1))))))))))
set_option maxHeartbeats 4000000 in
set_option maxRecDepth 100000 in
theorem c_X10_flip (l : Launch) (D : va_G) (cI cJ cZ cW : ClassId) (o o_text o_now o_trial o_diary o_kept o_isKept o_knownPlace o_knownLetter o_letters o_starts o_bestLetters o_deep o_worth o_readTicks : Nat) (v_length : Int32) (v_acts : Int32) (v_next : Int32) (v_known : Int32) (v_seed : Int64) (v_wide : Int32) (v_bits : Int32) (v_parity : Int32) (v_stops : Int32) (v_idle : Int32) (v_frames : Int32) (v_failed : Int32) (v_failedAt : Int32) (v_margin : Int32) (v_bestFrames : Int32) (v_alike : Int32) (v_fitting : Int32) (v_readLevel : Int32) (v_readMany : Int32) (v_part : Int32) (v_ten : Int32) (v_diary : (Nat → Int32)) (v_now : (Nat → Int32)) (x1 : Int32) (fu : Nat) (Q : Int32 → Int32 → Int32 → (Nat → Int32) → (Nat → Int32) → Prop) (h : wp_X10_flip fu x1 v_acts v_next v_diary v_now Q) : CtI l yX10_flip wkX10_flip rmX10_flip D (tys4 cI cJ cZ cW) [.ref o, .int x1] [(o, .inr (10, [.ref o_text, .int v_length, .ref o_now, .ref o_trial, .ref o_diary, .int v_acts, .int v_next, .ref o_kept, .ref o_isKept, .ref o_knownPlace, .ref o_knownLetter, .int v_known, .long v_seed, .int v_wide, .int v_bits, .int v_parity, .int v_stops, .int v_idle, .int v_frames, .int v_failed, .int v_failedAt, .int v_margin, .ref o_letters, .ref o_starts, .int v_bestFrames, .ref o_bestLetters, .int v_alike, .int v_fitting, .ref o_deep, .ref o_worth, .int v_readLevel, .int v_readMany, .ref o_readTicks, .int v_part, .int v_ten])), (o_diary, .inl (cI, 5054, .inl v_diary)), (o_now, .inl (cI, 361, .inl v_now))] (fun (r : Int32) (u : Int32 × Int32 × (Nat → Int32) × (Nat → Int32)) => Q r u.1 u.2.1 u.2.2.1 u.2.2.2) (fun (u : Int32 × Int32 × (Nat → Int32) × (Nat → Int32)) => [(o, .inr (10, [.ref o_text, .int v_length, .ref o_now, .ref o_trial, .ref o_diary, .int u.1, .int u.2.1, .ref o_kept, .ref o_isKept, .ref o_knownPlace, .ref o_knownLetter, .int v_known, .long v_seed, .int v_wide, .int v_bits, .int v_parity, .int v_stops, .int v_idle, .int v_frames, .int v_failed, .int v_failedAt, .int v_margin, .ref o_letters, .ref o_starts, .int v_bestFrames, .ref o_bestLetters, .int v_alike, .int v_fitting, .ref o_deep, .ref o_worth, .int v_readLevel, .int v_readMany, .ref o_readTicks, .int v_part, .int v_ten])), (o_diary, .inl (cI, 5054, .inl u.2.2.1)), (o_now, .inl (cI, 361, .inl u.2.2.2))]) := by
  refine CtI.of (S := Int32 × Int32 × (Nat → Int32) × (Nat → Int32)) (y := yX10_flip) (Tc := wkX10_flip) (rm := rmX10_flip) (D := D) (tys := tys4 cI cJ cZ cW) (av := [.ref o, .int x1]) (wc := [(o, .inr (10, [.ref o_text, .int v_length, .ref o_now, .ref o_trial, .ref o_diary, .int v_acts, .int v_next, .ref o_kept, .ref o_isKept, .ref o_knownPlace, .ref o_knownLetter, .int v_known, .long v_seed, .int v_wide, .int v_bits, .int v_parity, .int v_stops, .int v_idle, .int v_frames, .int v_failed, .int v_failedAt, .int v_margin, .ref o_letters, .ref o_starts, .int v_bestFrames, .ref o_bestLetters, .int v_alike, .int v_fitting, .ref o_deep, .ref o_worth, .int v_readLevel, .int v_readMany, .ref o_readTicks, .int v_part, .int v_ten])), (o_diary, .inl (cI, 5054, .inl v_diary)), (o_now, .inl (cI, 361, .inl v_now))]) (post := (fun (r : Int32) (u : Int32 × Int32 × (Nat → Int32) × (Nat → Int32)) => Q r u.1 u.2.1 u.2.2.1 u.2.2.2)) (w1 := (fun (u : Int32 × Int32 × (Nat → Int32) × (Nat → Int32)) => [(o, .inr (10, [.ref o_text, .int v_length, .ref o_now, .ref o_trial, .ref o_diary, .int u.1, .int u.2.1, .ref o_kept, .ref o_isKept, .ref o_knownPlace, .ref o_knownLetter, .int v_known, .long v_seed, .int v_wide, .int v_bits, .int v_parity, .int v_stops, .int v_idle, .int v_frames, .int v_failed, .int v_failedAt, .int v_margin, .ref o_letters, .ref o_starts, .int v_bestFrames, .ref o_bestLetters, .int v_alike, .int v_fitting, .ref o_deep, .ref o_worth, .int v_readLevel, .int v_readMany, .ref o_readTicks, .int v_part, .int v_ten])), (o_diary, .inl (cI, 5054, .inl u.2.2.1)), (o_now, .inl (cI, 361, .inl u.2.2.2))])) (cc := cX10_flip) (maxL := 2) RX10 rfl (by decide +kernel) rfl rfl [(0, .ref o), (1, .int x1)] rfl ?_
  intro p e s m args below meth c A Qm C hret
  unfold wp_X10_flip at h
  refine g_aload_n C 0 0 o dX10_flip_0 rfl rfl ?_
  refine g_get C 10 ix_10 0 _ rfl rfl 2 (by decide) wm_128 rfl (.ref o_now) rfl dX10_flip_1 ?_
  refine g_iload_n C 1 1 x1 dX10_flip_4 rfl rfl ?_
  refine g_callSi0 (As := [.ref o_now, .int x1]) (rest := []) C (c_X10_isTick l D cI cJ cZ cW o_now v_now x1 fu _ h) 2 gd_X10_117 rfl rfl rfl (by decide +kernel) ⟨Nat.le_of_ble_eq_true rfl, Nat.le_of_ble_eq_true rfl⟩ ⟨Nat.le_of_ble_eq_true rfl, Nat.le_of_ble_eq_true rfl⟩ rfl rfl (Nat.le_of_ble_eq_true rfl) [2] rfl rfl dX10_flip_5 (fun r1 h => ?_)
  obtain ⟨hzr1, h⟩ := h
  refine g_if_ne C 13 dX10_flip_8 (by decide) (fun c2 => ?_) (fun c2 => ?_)
  rotate_left
  · have h := wp_t c2 h
    refine g_iconst C (-1 : Int32) dX10_flip_11 rfl ?_
    exact hret _ (v_acts, v_next, v_diary, v_now) _ _ _ dX10_flip_12 h rfl
  have h := wp_f c2 h
  refine g_aload_n C 0 0 o dX10_flip_13 rfl rfl ?_
  refine g_callVv (As := []) (rest := []) C (c_X10_note l D cI cJ cZ cW o o_text o_now o_trial o_diary o_kept o_isKept o_knownPlace o_knownLetter o_letters o_starts o_bestLetters o_deep o_worth o_readTicks v_length v_acts v_next v_known v_seed v_wide v_bits v_parity v_stops v_idle v_frames v_failed v_failedAt v_margin v_bestFrames v_alike v_fitting v_readLevel v_readMany v_part v_ten v_diary v_now fu _ h) 0 gd_X10_209 rfl rfl rfl (by decide +kernel) ⟨Nat.le_of_ble_eq_true rfl, Nat.le_of_ble_eq_true rfl⟩ ⟨Nat.le_of_ble_eq_true rfl, Nat.le_of_ble_eq_true rfl⟩ 10 0 rfl rfl rfl rfl (Nat.le_of_ble_eq_true rfl) [0, 1, 2] [some 0, some 1, some 2] rfl rfl rfl dX10_flip_14 (fun u h => ?_)
  obtain ⟨z3, z4, z5⟩ := u
  refine ⟨[(o, .inr (10, [.ref o_text, .int v_length, .ref o_now, .ref o_trial, .ref o_diary, .int z3, .int z4, .ref o_kept, .ref o_isKept, .ref o_knownPlace, .ref o_knownLetter, .int v_known, .long v_seed, .int v_wide, .int v_bits, .int v_parity, .int v_stops, .int v_idle, .int v_frames, .int v_failed, .int v_failedAt, .int v_margin, .ref o_letters, .ref o_starts, .int v_bestFrames, .ref o_bestLetters, .int v_alike, .int v_fitting, .ref o_deep, .ref o_worth, .int v_readLevel, .int v_readMany, .ref o_readTicks, .int v_part, .int v_ten])), (o_diary, .inl (cI, 5054, .inl z5)), (o_now, .inl (cI, 361, .inl v_now))], rfl, rfl, rfl, ?_⟩
  refine g_aload_n C 0 0 o dX10_flip_17 rfl rfl ?_
  refine g_get C 10 ix_10 0 _ rfl rfl 2 (by decide) wm_128 rfl (.ref o_now) rfl dX10_flip_18 ?_
  refine g_iload_n C 1 1 x1 dX10_flip_21 rfl rfl ?_
  refine g_iconst C (1 : Int32) dX10_flip_22 rfl ?_
  refine g_aload_n C 0 0 o dX10_flip_23 rfl rfl ?_
  refine g_get C 10 ix_10 0 _ rfl rfl 2 (by decide) wm_128 rfl (.ref o_now) rfl dX10_flip_24 ?_
  refine g_iload_n C 1 1 x1 dX10_flip_27 rfl rfl ?_
  obtain ⟨hi6, h⟩ := h
  refine g_iald C 2 0 cI 361 v_now rfl rfl hi6 dX10_flip_28 ?_
  refine g_isub C dX10_flip_29 ?_
  obtain ⟨hi7, h⟩ := h
  refine g_iast C 2 0 cI 361 v_now rfl rfl hi7 dX10_flip_30 [(o, .inr (10, [.ref o_text, .int v_length, .ref o_now, .ref o_trial, .ref o_diary, .int z3, .int z4, .ref o_kept, .ref o_isKept, .ref o_knownPlace, .ref o_knownLetter, .int v_known, .long v_seed, .int v_wide, .int v_bits, .int v_parity, .int v_stops, .int v_idle, .int v_frames, .int v_failed, .int v_failedAt, .int v_margin, .ref o_letters, .ref o_starts, .int v_bestFrames, .ref o_bestLetters, .int v_alike, .int v_fitting, .ref o_deep, .ref o_worth, .int v_readLevel, .int v_readMany, .ref o_readTicks, .int v_part, .int v_ten])), (o_diary, .inl (cI, 5054, .inl z5)), (o_now, .inl (cI, 361, .inl (upd v_now (ix x1) ((1 : Int32) - (v_now (ix x1))))))] rfl ?_
  refine g_aload_n C 0 0 o dX10_flip_31 rfl rfl ?_
  refine g_get C 10 ix_10 0 _ rfl rfl 2 (by decide) wm_128 rfl (.ref o_now) rfl dX10_flip_32 ?_
  refine g_iload_n C 1 1 x1 dX10_flip_35 rfl rfl ?_
  obtain ⟨hi8, h⟩ := h
  refine g_iald C 2 0 cI 361 (upd v_now (ix x1) ((1 : Int32) - (v_now (ix x1)))) rfl rfl hi8 dX10_flip_36 ?_
  exact hret _ (z3, z4, z5, (upd v_now (ix x1) ((1 : Int32) - (v_now (ix x1))))) _ _ _ dX10_flip_37 h rfl
abbrev rmX10_cutOn : Room := { frames := 0, cells := 0, slots := 0, locals := 0 }
def wX10_cutOn_2 (fu : Nat) (x1 : Int32) (Q : (Nat → Int32) → Prop) : Nat → Int32 → (Nat → Int32) → Prop
  | 0, _, _ => False
  | n0 + 1, x2, v_a0 => (if x1 ≤ x2 then Q v_a0 else (vp_in ((upd v_a0 (ix (360 : Int32)) ((v_a0 (ix (360 : Int32))) - (1 : Int32))) (ix (360 : Int32))) 361 ∧ (wX10_cutOn_2 fu x1 Q n0) (x2 + (1 : Int32)) (upd (upd v_a0 (ix (360 : Int32)) ((v_a0 (ix (360 : Int32))) - (1 : Int32))) (ix ((upd v_a0 (ix (360 : Int32)) ((v_a0 (ix (360 : Int32))) - (1 : Int32))) (ix (360 : Int32)))) (0 : Int32))))
def wp_X10_cutOn (fu : Nat) (x1 : Int32) (v_a0 : (Nat → Int32)) (Q : (Nat → Int32) → Prop) : Prop := wX10_cutOn_2 fu x1 Q fu (0 : Int32) v_a0
set_option maxHeartbeats 4000000 in
set_option maxRecDepth 100000 in
theorem c_X10_cutOn (l : Launch) (D : va_G) (cI cJ cZ cW : ClassId) (o_a0 : Nat) (v_a0 : (Nat → Int32)) (x1 : Int32) (fu : Nat) (Q : (Nat → Int32) → Prop) (h : wp_X10_cutOn fu x1 v_a0 Q) : CtV l yX10_cutOn wkX10_cutOn rmX10_cutOn D (tys4 cI cJ cZ cW) [.ref o_a0, .int x1] [(o_a0, .inl (cI, 361, .inl v_a0))] (fun (u : (Nat → Int32)) => Q u) (fun (u : (Nat → Int32)) => [(o_a0, .inl (cI, 361, .inl u))]) := by
  refine CtV.of (S := (Nat → Int32)) (y := yX10_cutOn) (Tc := wkX10_cutOn) (rm := rmX10_cutOn) (D := D) (tys := tys4 cI cJ cZ cW) (av := [.ref o_a0, .int x1]) (wc := [(o_a0, .inl (cI, 361, .inl v_a0))]) (post := (fun (u : (Nat → Int32)) => Q u)) (w1 := (fun (u : (Nat → Int32)) => [(o_a0, .inl (cI, 361, .inl u))])) (cc := cX10_cutOn) (maxL := 3) RX10 rfl (by decide +kernel) rfl rfl [(0, .ref o_a0), (1, .int x1)] rfl ?_
  intro p e s m args below meth c A Qm C hret
  have H2 : ∀ (n2 : Nat) (x2 : Int32) (v_a0 : (Nat → Int32)), wX10_cutOn_2 fu x1 Q n2 x2 v_a0 → G p l e rmX10_cutOn s m args below meth c D A 3 0 0 Qm [(o_a0, .inl (cI, 361, .inl v_a0))] [(0, .ref o_a0), (1, .int x1), (2, .int x2)] 2 [] := by
    intro n2
    induction n2 with
    | zero => intro x2 v_a0 h; exact False.elim h
    | succ n2 ih2 =>
      intro x2 v_a0 h
      unfold wX10_cutOn_2 at h
      refine g_iload_n C 2 2 x2 dX10_cutOn_2 rfl rfl ?_
      refine g_iload_n C 1 1 x1 dX10_cutOn_3 rfl rfl ?_
      refine g_icmp_ge C 30 dX10_cutOn_4 (by decide) (fun c1 => ?_) (fun c1 => ?_)
      · have h := wp_t c1 h
        exact hret v_a0 _ _ _ dX10_cutOn_30 h rfl
      have h := wp_f c1 h
      refine g_aload_n C 0 0 o_a0 dX10_cutOn_7 rfl rfl ?_
      refine g_sipush C (360 : Int32) dX10_cutOn_8 rfl ?_
      refine g_dup2 C dX10_cutOn_11 rfl rfl ?_
      refine g_iald C 0 0 cI 361 v_a0 rfl rfl (vp_in_dec rfl) dX10_cutOn_12 ?_
      refine g_iconst C (1 : Int32) dX10_cutOn_13 rfl ?_
      refine g_isub C dX10_cutOn_14 ?_
      refine g_iast C 0 0 cI 361 v_a0 rfl rfl (vp_in_dec rfl) dX10_cutOn_15 [(o_a0, .inl (cI, 361, .inl (upd v_a0 (ix (360 : Int32)) ((v_a0 (ix (360 : Int32))) - (1 : Int32)))))] rfl ?_
      refine g_aload_n C 0 0 o_a0 dX10_cutOn_16 rfl rfl ?_
      refine g_aload_n C 0 0 o_a0 dX10_cutOn_17 rfl rfl ?_
      refine g_sipush C (360 : Int32) dX10_cutOn_18 rfl ?_
      refine g_iald C 0 0 cI 361 (upd v_a0 (ix (360 : Int32)) ((v_a0 (ix (360 : Int32))) - (1 : Int32))) rfl rfl (vp_in_dec rfl) dX10_cutOn_21 ?_
      refine g_iconst C (0 : Int32) dX10_cutOn_22 rfl ?_
      obtain ⟨hi2, h⟩ := h
      refine g_iast C 0 0 cI 361 (upd v_a0 (ix (360 : Int32)) ((v_a0 (ix (360 : Int32))) - (1 : Int32))) rfl rfl hi2 dX10_cutOn_23 [(o_a0, .inl (cI, 361, .inl (upd (upd v_a0 (ix (360 : Int32)) ((v_a0 (ix (360 : Int32))) - (1 : Int32))) (ix ((upd v_a0 (ix (360 : Int32)) ((v_a0 (ix (360 : Int32))) - (1 : Int32))) (ix (360 : Int32)))) (0 : Int32))))] rfl ?_
      refine g_iinc C 2 x2 (x2 + (1 : Int32)) [(2, .int (x2 + (1 : Int32))), (0, .ref o_a0), (1, .int x1)] dX10_cutOn_24 rfl rfl (by decide) rfl ?_
      refine g_goto C 2 dX10_cutOn_27 (by decide) ?_
      refine g_lv [1, 2, 0] rfl ?_
      exact ih2  (x2 + (1 : Int32)) (upd (upd v_a0 (ix (360 : Int32)) ((v_a0 (ix (360 : Int32))) - (1 : Int32))) (ix ((upd v_a0 (ix (360 : Int32)) ((v_a0 (ix (360 : Int32))) - (1 : Int32))) (ix (360 : Int32)))) (0 : Int32)) h
  unfold wp_X10_cutOn at h
  refine g_iconst C (0 : Int32) dX10_cutOn_0 rfl ?_
  refine g_istore_n C [(2, .int (0 : Int32)), (0, .ref o_a0), (1, .int x1)] dX10_cutOn_1 rfl (by decide) rfl ?_
  refine g_lv [1, 2, 0] rfl ?_
  exact H2 fu  (0 : Int32) v_a0 h
abbrev rmX10_cut : Room := { frames := 1, cells := 0, slots := 0, locals := 25 }
def wp_X10_cut (fu : Nat) (x1 : Int32) (v_acts : Int32) (v_next : Int32) (v_diary : (Nat → Int32)) (v_now : (Nat → Int32)) (Q : Int32 → Int32 → Int32 → (Nat → Int32) → (Nat → Int32) → Prop) : Prop := wp_X10_in fu (Int32.toInt64 x1) (1 : Int64) (Int32.toInt64 (v_now (ix (360 : Int32)))) (fun (r1 : Int32) => (if r1 = 0 then Q (-2 : Int32) v_acts v_next v_diary v_now else wp_X10_note fu v_now v_acts v_next v_diary (fun (z3 : Int32) (z4 : Int32) (z5 : (Nat → Int32)) => wp_X10_cutOn fu x1 v_now (fun (z6 : (Nat → Int32)) => Q (z6 (ix (360 : Int32))) z3 z4 z5 z6))))
set_option maxHeartbeats 4000000 in
set_option maxRecDepth 100000 in
theorem c_X10_cut (l : Launch) (D : va_G) (cI cJ cZ cW : ClassId) (o o_text o_now o_trial o_diary o_kept o_isKept o_knownPlace o_knownLetter o_letters o_starts o_bestLetters o_deep o_worth o_readTicks : Nat) (v_length : Int32) (v_acts : Int32) (v_next : Int32) (v_known : Int32) (v_seed : Int64) (v_wide : Int32) (v_bits : Int32) (v_parity : Int32) (v_stops : Int32) (v_idle : Int32) (v_frames : Int32) (v_failed : Int32) (v_failedAt : Int32) (v_margin : Int32) (v_bestFrames : Int32) (v_alike : Int32) (v_fitting : Int32) (v_readLevel : Int32) (v_readMany : Int32) (v_part : Int32) (v_ten : Int32) (v_diary : (Nat → Int32)) (v_now : (Nat → Int32)) (x1 : Int32) (fu : Nat) (Q : Int32 → Int32 → Int32 → (Nat → Int32) → (Nat → Int32) → Prop) (h : wp_X10_cut fu x1 v_acts v_next v_diary v_now Q) : CtI l yX10_cut wkX10_cut rmX10_cut D (tys4 cI cJ cZ cW) [.ref o, .int x1] [(o, .inr (10, [.ref o_text, .int v_length, .ref o_now, .ref o_trial, .ref o_diary, .int v_acts, .int v_next, .ref o_kept, .ref o_isKept, .ref o_knownPlace, .ref o_knownLetter, .int v_known, .long v_seed, .int v_wide, .int v_bits, .int v_parity, .int v_stops, .int v_idle, .int v_frames, .int v_failed, .int v_failedAt, .int v_margin, .ref o_letters, .ref o_starts, .int v_bestFrames, .ref o_bestLetters, .int v_alike, .int v_fitting, .ref o_deep, .ref o_worth, .int v_readLevel, .int v_readMany, .ref o_readTicks, .int v_part, .int v_ten])), (o_diary, .inl (cI, 5054, .inl v_diary)), (o_now, .inl (cI, 361, .inl v_now))] (fun (r : Int32) (u : Int32 × Int32 × (Nat → Int32) × (Nat → Int32)) => Q r u.1 u.2.1 u.2.2.1 u.2.2.2) (fun (u : Int32 × Int32 × (Nat → Int32) × (Nat → Int32)) => [(o, .inr (10, [.ref o_text, .int v_length, .ref o_now, .ref o_trial, .ref o_diary, .int u.1, .int u.2.1, .ref o_kept, .ref o_isKept, .ref o_knownPlace, .ref o_knownLetter, .int v_known, .long v_seed, .int v_wide, .int v_bits, .int v_parity, .int v_stops, .int v_idle, .int v_frames, .int v_failed, .int v_failedAt, .int v_margin, .ref o_letters, .ref o_starts, .int v_bestFrames, .ref o_bestLetters, .int v_alike, .int v_fitting, .ref o_deep, .ref o_worth, .int v_readLevel, .int v_readMany, .ref o_readTicks, .int v_part, .int v_ten])), (o_diary, .inl (cI, 5054, .inl u.2.2.1)), (o_now, .inl (cI, 361, .inl u.2.2.2))]) := by
  refine CtI.of (S := Int32 × Int32 × (Nat → Int32) × (Nat → Int32)) (y := yX10_cut) (Tc := wkX10_cut) (rm := rmX10_cut) (D := D) (tys := tys4 cI cJ cZ cW) (av := [.ref o, .int x1]) (wc := [(o, .inr (10, [.ref o_text, .int v_length, .ref o_now, .ref o_trial, .ref o_diary, .int v_acts, .int v_next, .ref o_kept, .ref o_isKept, .ref o_knownPlace, .ref o_knownLetter, .int v_known, .long v_seed, .int v_wide, .int v_bits, .int v_parity, .int v_stops, .int v_idle, .int v_frames, .int v_failed, .int v_failedAt, .int v_margin, .ref o_letters, .ref o_starts, .int v_bestFrames, .ref o_bestLetters, .int v_alike, .int v_fitting, .ref o_deep, .ref o_worth, .int v_readLevel, .int v_readMany, .ref o_readTicks, .int v_part, .int v_ten])), (o_diary, .inl (cI, 5054, .inl v_diary)), (o_now, .inl (cI, 361, .inl v_now))]) (post := (fun (r : Int32) (u : Int32 × Int32 × (Nat → Int32) × (Nat → Int32)) => Q r u.1 u.2.1 u.2.2.1 u.2.2.2)) (w1 := (fun (u : Int32 × Int32 × (Nat → Int32) × (Nat → Int32)) => [(o, .inr (10, [.ref o_text, .int v_length, .ref o_now, .ref o_trial, .ref o_diary, .int u.1, .int u.2.1, .ref o_kept, .ref o_isKept, .ref o_knownPlace, .ref o_knownLetter, .int v_known, .long v_seed, .int v_wide, .int v_bits, .int v_parity, .int v_stops, .int v_idle, .int v_frames, .int v_failed, .int v_failedAt, .int v_margin, .ref o_letters, .ref o_starts, .int v_bestFrames, .ref o_bestLetters, .int v_alike, .int v_fitting, .ref o_deep, .ref o_worth, .int v_readLevel, .int v_readMany, .ref o_readTicks, .int v_part, .int v_ten])), (o_diary, .inl (cI, 5054, .inl u.2.2.1)), (o_now, .inl (cI, 361, .inl u.2.2.2))])) (cc := cX10_cut) (maxL := 2) RX10 rfl (by decide +kernel) rfl rfl [(0, .ref o), (1, .int x1)] rfl ?_
  intro p e s m args below meth c A Qm C hret
  unfold wp_X10_cut at h
  refine g_iload_n C 1 1 x1 dX10_cut_0 rfl rfl ?_
  refine g_i2l C dX10_cut_1 ?_
  refine g_lconst C (1 : Int64) dX10_cut_2 rfl ?_
  refine g_aload_n C 0 0 o dX10_cut_3 rfl rfl ?_
  refine g_get C 10 ix_10 0 _ rfl rfl 2 (by decide) wm_128 rfl (.ref o_now) rfl dX10_cut_4 ?_
  refine g_sipush C (360 : Int32) dX10_cut_7 rfl ?_
  refine g_iald C 2 0 cI 361 v_now rfl rfl (vp_in_dec rfl) dX10_cut_10 ?_
  refine g_i2l C dX10_cut_11 ?_
  refine g_callSi0 (As := [.long (Int32.toInt64 x1), .long (1 : Int64), .long (Int32.toInt64 (v_now (ix (360 : Int32))))]) (rest := []) C (c_X10_in l D cI cJ cZ cW (Int32.toInt64 x1) (1 : Int64) (Int32.toInt64 (v_now (ix (360 : Int32)))) fu _ h) 3 gd_X10_53 rfl rfl rfl (by decide +kernel) ⟨Nat.le_of_ble_eq_true rfl, Nat.le_of_ble_eq_true rfl⟩ ⟨Nat.le_of_ble_eq_true rfl, Nat.le_of_ble_eq_true rfl⟩ rfl rfl (Nat.le_of_ble_eq_true rfl) [] rfl rfl dX10_cut_12 (fun r1 h => ?_)
  obtain ⟨hzr1, h⟩ := h
  refine g_if_ne C 21 dX10_cut_15 (by decide) (fun c2 => ?_) (fun c2 => ?_)
  rotate_left
  · have h := wp_t c2 h
    refine g_bipush C (-2 : Int32) dX10_cut_18 rfl ?_
    exact hret _ (v_acts, v_next, v_diary, v_now) _ _ _ dX10_cut_20 h rfl
  have h := wp_f c2 h
  refine g_aload_n C 0 0 o dX10_cut_21 rfl rfl ?_
  refine g_callVv (As := []) (rest := []) C (c_X10_note l D cI cJ cZ cW o o_text o_now o_trial o_diary o_kept o_isKept o_knownPlace o_knownLetter o_letters o_starts o_bestLetters o_deep o_worth o_readTicks v_length v_acts v_next v_known v_seed v_wide v_bits v_parity v_stops v_idle v_frames v_failed v_failedAt v_margin v_bestFrames v_alike v_fitting v_readLevel v_readMany v_part v_ten v_diary v_now fu _ h) 0 gd_X10_209 rfl rfl rfl (by decide +kernel) ⟨Nat.le_of_ble_eq_true rfl, Nat.le_of_ble_eq_true rfl⟩ ⟨Nat.le_of_ble_eq_true rfl, Nat.le_of_ble_eq_true rfl⟩ 10 0 rfl rfl rfl rfl (Nat.le_of_ble_eq_true rfl) [0, 1, 2] [some 0, some 1, some 2] rfl rfl rfl dX10_cut_22 (fun u h => ?_)
  obtain ⟨z3, z4, z5⟩ := u
  refine ⟨[(o, .inr (10, [.ref o_text, .int v_length, .ref o_now, .ref o_trial, .ref o_diary, .int z3, .int z4, .ref o_kept, .ref o_isKept, .ref o_knownPlace, .ref o_knownLetter, .int v_known, .long v_seed, .int v_wide, .int v_bits, .int v_parity, .int v_stops, .int v_idle, .int v_frames, .int v_failed, .int v_failedAt, .int v_margin, .ref o_letters, .ref o_starts, .int v_bestFrames, .ref o_bestLetters, .int v_alike, .int v_fitting, .ref o_deep, .ref o_worth, .int v_readLevel, .int v_readMany, .ref o_readTicks, .int v_part, .int v_ten])), (o_diary, .inl (cI, 5054, .inl z5)), (o_now, .inl (cI, 361, .inl v_now))], rfl, rfl, rfl, ?_⟩
  refine g_aload_n C 0 0 o dX10_cut_25 rfl rfl ?_
  refine g_get C 10 ix_10 0 _ rfl rfl 2 (by decide) wm_128 rfl (.ref o_now) rfl dX10_cut_26 ?_
  refine g_iload_n C 1 1 x1 dX10_cut_29 rfl rfl ?_
  refine g_callSv (As := [.ref o_now, .int x1]) (rest := []) C (c_X10_cutOn l D cI cJ cZ cW o_now v_now x1 fu _ h) 2 gd_X10_224 rfl rfl rfl (by decide +kernel) ⟨Nat.le_of_ble_eq_true rfl, Nat.le_of_ble_eq_true rfl⟩ ⟨Nat.le_of_ble_eq_true rfl, Nat.le_of_ble_eq_true rfl⟩ rfl rfl (Nat.le_of_ble_eq_true rfl) [2] [none, none, some 0] rfl rfl rfl dX10_cut_30 (fun u h => ?_)
  obtain ⟨z6, rfl⟩ : ∃ z, z = u := ⟨_, rfl⟩
  refine ⟨[(o, .inr (10, [.ref o_text, .int v_length, .ref o_now, .ref o_trial, .ref o_diary, .int z3, .int z4, .ref o_kept, .ref o_isKept, .ref o_knownPlace, .ref o_knownLetter, .int v_known, .long v_seed, .int v_wide, .int v_bits, .int v_parity, .int v_stops, .int v_idle, .int v_frames, .int v_failed, .int v_failedAt, .int v_margin, .ref o_letters, .ref o_starts, .int v_bestFrames, .ref o_bestLetters, .int v_alike, .int v_fitting, .ref o_deep, .ref o_worth, .int v_readLevel, .int v_readMany, .ref o_readTicks, .int v_part, .int v_ten])), (o_diary, .inl (cI, 5054, .inl z5)), (o_now, .inl (cI, 361, .inl z6))], rfl, rfl, rfl, ?_⟩
  refine g_aload_n C 0 0 o dX10_cut_33 rfl rfl ?_
  refine g_get C 10 ix_10 0 _ rfl rfl 2 (by decide) wm_128 rfl (.ref o_now) rfl dX10_cut_34 ?_
  refine g_sipush C (360 : Int32) dX10_cut_37 rfl ?_
  refine g_iald C 2 0 cI 361 z6 rfl rfl (vp_in_dec rfl) dX10_cut_40 ?_
  exact hret _ (z3, z4, z5, z6) _ _ _ dX10_cut_41 h rfl
abbrev rmX10_undo : Room := { frames := 0, cells := 0, slots := 0, locals := 0 }
def wX10_undo_38 (fu : Nat) (v_diary : (Nat → Int32)) (Q : Int32 → Int32 → Int32 → (Nat → Int32) → Prop) : Nat → Int32 → Int32 → Int32 → (Nat → Int32) → Prop
  | 0, _, _, _, _ => False
  | n0 + 1, x1, v_acts, v_next, v_now => (if (361 : Int32) ≤ x1 then Q v_acts v_acts v_next v_now else (vp_in (((361 : Int32) * v_next) + x1) 5054 ∧ (vp_in x1 361 ∧ (wX10_undo_38 fu v_diary Q n0) (x1 + (1 : Int32)) v_acts v_next (upd v_now (ix x1) (v_diary (ix (((361 : Int32) * v_next) + x1)))))))
def wp_X10_undo (fu : Nat) (v_diary : (Nat → Int32)) (v_acts : Int32) (v_next : Int32) (v_now : (Nat → Int32)) (Q : Int32 → Int32 → Int32 → (Nat → Int32) → Prop) : Prop := (if v_acts = 0 then Q (-3 : Int32) v_acts v_next v_now else wX10_undo_38 fu v_diary Q fu (0 : Int32) (v_acts - (1 : Int32)) (irm ((v_next + (14 : Int32)) - (1 : Int32)) (14 : Int32)) v_now)
set_option maxHeartbeats 4000000 in
set_option maxRecDepth 100000 in
theorem c_X10_undo (l : Launch) (D : va_G) (cI cJ cZ cW : ClassId) (o o_text o_now o_trial o_diary o_kept o_isKept o_knownPlace o_knownLetter o_letters o_starts o_bestLetters o_deep o_worth o_readTicks : Nat) (v_length : Int32) (v_acts : Int32) (v_next : Int32) (v_known : Int32) (v_seed : Int64) (v_wide : Int32) (v_bits : Int32) (v_parity : Int32) (v_stops : Int32) (v_idle : Int32) (v_frames : Int32) (v_failed : Int32) (v_failedAt : Int32) (v_margin : Int32) (v_bestFrames : Int32) (v_alike : Int32) (v_fitting : Int32) (v_readLevel : Int32) (v_readMany : Int32) (v_part : Int32) (v_ten : Int32) (v_diary : (Nat → Int32)) (v_now : (Nat → Int32)) (fu : Nat) (Q : Int32 → Int32 → Int32 → (Nat → Int32) → Prop) (h : wp_X10_undo fu v_diary v_acts v_next v_now Q) : CtI l yX10_undo wkX10_undo rmX10_undo D (tys4 cI cJ cZ cW) [.ref o] [(o, .inr (10, [.ref o_text, .int v_length, .ref o_now, .ref o_trial, .ref o_diary, .int v_acts, .int v_next, .ref o_kept, .ref o_isKept, .ref o_knownPlace, .ref o_knownLetter, .int v_known, .long v_seed, .int v_wide, .int v_bits, .int v_parity, .int v_stops, .int v_idle, .int v_frames, .int v_failed, .int v_failedAt, .int v_margin, .ref o_letters, .ref o_starts, .int v_bestFrames, .ref o_bestLetters, .int v_alike, .int v_fitting, .ref o_deep, .ref o_worth, .int v_readLevel, .int v_readMany, .ref o_readTicks, .int v_part, .int v_ten])), (o_diary, .inl (cI, 5054, .inl v_diary)), (o_now, .inl (cI, 361, .inl v_now))] (fun (r : Int32) (u : Int32 × Int32 × (Nat → Int32)) => Q r u.1 u.2.1 u.2.2) (fun (u : Int32 × Int32 × (Nat → Int32)) => [(o, .inr (10, [.ref o_text, .int v_length, .ref o_now, .ref o_trial, .ref o_diary, .int u.1, .int u.2.1, .ref o_kept, .ref o_isKept, .ref o_knownPlace, .ref o_knownLetter, .int v_known, .long v_seed, .int v_wide, .int v_bits, .int v_parity, .int v_stops, .int v_idle, .int v_frames, .int v_failed, .int v_failedAt, .int v_margin, .ref o_letters, .ref o_starts, .int v_bestFrames, .ref o_bestLetters, .int v_alike, .int v_fitting, .ref o_deep, .ref o_worth, .int v_readLevel, .int v_readMany, .ref o_readTicks, .int v_part, .int v_ten])), (o_diary, .inl (cI, 5054, .inl v_diary)), (o_now, .inl (cI, 361, .inl u.2.2))]) := by
  refine CtI.of (S := Int32 × Int32 × (Nat → Int32)) (y := yX10_undo) (Tc := wkX10_undo) (rm := rmX10_undo) (D := D) (tys := tys4 cI cJ cZ cW) (av := [.ref o]) (wc := [(o, .inr (10, [.ref o_text, .int v_length, .ref o_now, .ref o_trial, .ref o_diary, .int v_acts, .int v_next, .ref o_kept, .ref o_isKept, .ref o_knownPlace, .ref o_knownLetter, .int v_known, .long v_seed, .int v_wide, .int v_bits, .int v_parity, .int v_stops, .int v_idle, .int v_frames, .int v_failed, .int v_failedAt, .int v_margin, .ref o_letters, .ref o_starts, .int v_bestFrames, .ref o_bestLetters, .int v_alike, .int v_fitting, .ref o_deep, .ref o_worth, .int v_readLevel, .int v_readMany, .ref o_readTicks, .int v_part, .int v_ten])), (o_diary, .inl (cI, 5054, .inl v_diary)), (o_now, .inl (cI, 361, .inl v_now))]) (post := (fun (r : Int32) (u : Int32 × Int32 × (Nat → Int32)) => Q r u.1 u.2.1 u.2.2)) (w1 := (fun (u : Int32 × Int32 × (Nat → Int32)) => [(o, .inr (10, [.ref o_text, .int v_length, .ref o_now, .ref o_trial, .ref o_diary, .int u.1, .int u.2.1, .ref o_kept, .ref o_isKept, .ref o_knownPlace, .ref o_knownLetter, .int v_known, .long v_seed, .int v_wide, .int v_bits, .int v_parity, .int v_stops, .int v_idle, .int v_frames, .int v_failed, .int v_failedAt, .int v_margin, .ref o_letters, .ref o_starts, .int v_bestFrames, .ref o_bestLetters, .int v_alike, .int v_fitting, .ref o_deep, .ref o_worth, .int v_readLevel, .int v_readMany, .ref o_readTicks, .int v_part, .int v_ten])), (o_diary, .inl (cI, 5054, .inl v_diary)), (o_now, .inl (cI, 361, .inl u.2.2))])) (cc := cX10_undo) (maxL := 2) RX10 rfl (by decide +kernel) rfl rfl [(0, .ref o)] rfl ?_
  intro p e s m args below meth c A Qm C hret
  have H38 : ∀ (n38 : Nat) (x1 : Int32) (v_acts : Int32) (v_next : Int32) (v_now : (Nat → Int32)), wX10_undo_38 fu v_diary Q n38 x1 v_acts v_next v_now → G p l e rmX10_undo s m args below meth c D A 2 0 0 Qm [(o, .inr (10, [.ref o_text, .int v_length, .ref o_now, .ref o_trial, .ref o_diary, .int v_acts, .int v_next, .ref o_kept, .ref o_isKept, .ref o_knownPlace, .ref o_knownLetter, .int v_known, .long v_seed, .int v_wide, .int v_bits, .int v_parity, .int v_stops, .int v_idle, .int v_frames, .int v_failed, .int v_failedAt, .int v_margin, .ref o_letters, .ref o_starts, .int v_bestFrames, .ref o_bestLetters, .int v_alike, .int v_fitting, .ref o_deep, .ref o_worth, .int v_readLevel, .int v_readMany, .ref o_readTicks, .int v_part, .int v_ten])), (o_diary, .inl (cI, 5054, .inl v_diary)), (o_now, .inl (cI, 361, .inl v_now))] [(0, .ref o), (1, .int x1)] 38 [] := by
    intro n38
    induction n38 with
    | zero => intro x1 v_acts v_next v_now h; exact False.elim h
    | succ n38 ih38 =>
      intro x1 v_acts v_next v_now h
      unfold wX10_undo_38 at h
      refine g_iload_n C 1 1 x1 dX10_undo_38 rfl rfl ?_
      refine g_sipush C (361 : Int32) dX10_undo_39 rfl ?_
      refine g_icmp_ge C 72 dX10_undo_42 (by decide) (fun c2 => ?_) (fun c2 => ?_)
      · have h := wp_t c2 h
        refine g_aload_n C 0 0 o dX10_undo_72 rfl rfl ?_
        refine g_get C 10 ix_10 0 _ rfl rfl 5 (by decide) wm_247 rfl (.int v_acts) rfl dX10_undo_73 ?_
        exact hret _ (v_acts, v_next, v_now) _ _ _ dX10_undo_76 h rfl
      have h := wp_f c2 h
      refine g_aload_n C 0 0 o dX10_undo_45 rfl rfl ?_
      refine g_get C 10 ix_10 0 _ rfl rfl 2 (by decide) wm_128 rfl (.ref o_now) rfl dX10_undo_46 ?_
      refine g_iload_n C 1 1 x1 dX10_undo_49 rfl rfl ?_
      refine g_aload_n C 0 0 o dX10_undo_50 rfl rfl ?_
      refine g_get C 10 ix_10 0 _ rfl rfl 4 (by decide) wm_130 rfl (.ref o_diary) rfl dX10_undo_51 ?_
      refine g_sipush C (361 : Int32) dX10_undo_54 rfl ?_
      refine g_aload_n C 0 0 o dX10_undo_57 rfl rfl ?_
      refine g_get C 10 ix_10 0 _ rfl rfl 6 (by decide) wm_534 rfl (.int v_next) rfl dX10_undo_58 ?_
      refine g_imul C dX10_undo_61 ?_
      refine g_iload_n C 1 1 x1 dX10_undo_62 rfl rfl ?_
      refine g_iadd C dX10_undo_63 ?_
      obtain ⟨hi3, h⟩ := h
      refine g_iald C 1 0 cI 5054 v_diary rfl rfl hi3 dX10_undo_64 ?_
      obtain ⟨hi4, h⟩ := h
      refine g_iast C 2 0 cI 361 v_now rfl rfl hi4 dX10_undo_65 [(o, .inr (10, [.ref o_text, .int v_length, .ref o_now, .ref o_trial, .ref o_diary, .int v_acts, .int v_next, .ref o_kept, .ref o_isKept, .ref o_knownPlace, .ref o_knownLetter, .int v_known, .long v_seed, .int v_wide, .int v_bits, .int v_parity, .int v_stops, .int v_idle, .int v_frames, .int v_failed, .int v_failedAt, .int v_margin, .ref o_letters, .ref o_starts, .int v_bestFrames, .ref o_bestLetters, .int v_alike, .int v_fitting, .ref o_deep, .ref o_worth, .int v_readLevel, .int v_readMany, .ref o_readTicks, .int v_part, .int v_ten])), (o_diary, .inl (cI, 5054, .inl v_diary)), (o_now, .inl (cI, 361, .inl (upd v_now (ix x1) (v_diary (ix (((361 : Int32) * v_next) + x1))))))] rfl ?_
      refine g_iinc C 1 x1 (x1 + (1 : Int32)) [(1, .int (x1 + (1 : Int32))), (0, .ref o)] dX10_undo_66 rfl rfl (by decide) rfl ?_
      refine g_goto C 38 dX10_undo_69 (by decide) ?_
      refine g_lv [1, 0] rfl ?_
      exact ih38  (x1 + (1 : Int32)) v_acts v_next (upd v_now (ix x1) (v_diary (ix (((361 : Int32) * v_next) + x1)))) h
  unfold wp_X10_undo at h
  refine g_aload_n C 0 0 o dX10_undo_0 rfl rfl ?_
  refine g_get C 10 ix_10 0 _ rfl rfl 5 (by decide) wm_247 rfl (.int v_acts) rfl dX10_undo_1 ?_
  refine g_if_ne C 10 dX10_undo_4 (by decide) (fun c1 => ?_) (fun c1 => ?_)
  rotate_left
  · have h := wp_t c1 h
    refine g_bipush C (-3 : Int32) dX10_undo_7 rfl ?_
    exact hret _ (v_acts, v_next, v_now) _ _ _ dX10_undo_9 h rfl
  have h := wp_f c1 h
  refine g_aload_n C 0 0 o dX10_undo_10 rfl rfl ?_
  refine g_dup C dX10_undo_11 rfl ?_
  refine g_get C 10 ix_10 0 _ rfl rfl 5 (by decide) wm_247 rfl (.int v_acts) rfl dX10_undo_12 ?_
  refine g_iconst C (1 : Int32) dX10_undo_15 rfl ?_
  refine g_isub C dX10_undo_16 ?_
  refine g_put C 10 ix_10 0 _ rfl rfl 5 (by decide) wm_247 rfl tyX10 tyX10_ok nmX10 rfl rfl rfl (Nat.le_of_ble_eq_true rfl) dX10_undo_17 [(o, .inr (10, [.ref o_text, .int v_length, .ref o_now, .ref o_trial, .ref o_diary, .int (v_acts - (1 : Int32)), .int v_next, .ref o_kept, .ref o_isKept, .ref o_knownPlace, .ref o_knownLetter, .int v_known, .long v_seed, .int v_wide, .int v_bits, .int v_parity, .int v_stops, .int v_idle, .int v_frames, .int v_failed, .int v_failedAt, .int v_margin, .ref o_letters, .ref o_starts, .int v_bestFrames, .ref o_bestLetters, .int v_alike, .int v_fitting, .ref o_deep, .ref o_worth, .int v_readLevel, .int v_readMany, .ref o_readTicks, .int v_part, .int v_ten])), (o_diary, .inl (cI, 5054, .inl v_diary)), (o_now, .inl (cI, 361, .inl v_now))] rfl ?_
  refine g_aload_n C 0 0 o dX10_undo_20 rfl rfl ?_
  refine g_aload_n C 0 0 o dX10_undo_21 rfl rfl ?_
  refine g_get C 10 ix_10 0 _ rfl rfl 6 (by decide) wm_534 rfl (.int v_next) rfl dX10_undo_22 ?_
  refine g_bipush C (14 : Int32) dX10_undo_25 rfl ?_
  refine g_iadd C dX10_undo_27 ?_
  refine g_iconst C (1 : Int32) dX10_undo_28 rfl ?_
  refine g_isub C dX10_undo_29 ?_
  refine g_bipush C (14 : Int32) dX10_undo_30 rfl ?_
  refine g_irem C (by decide) dX10_undo_32 ?_
  refine g_put C 10 ix_10 0 _ rfl rfl 6 (by decide) wm_534 rfl tyX10 tyX10_ok nmX10 rfl rfl rfl (Nat.le_of_ble_eq_true rfl) dX10_undo_33 [(o, .inr (10, [.ref o_text, .int v_length, .ref o_now, .ref o_trial, .ref o_diary, .int (v_acts - (1 : Int32)), .int (irm ((v_next + (14 : Int32)) - (1 : Int32)) (14 : Int32)), .ref o_kept, .ref o_isKept, .ref o_knownPlace, .ref o_knownLetter, .int v_known, .long v_seed, .int v_wide, .int v_bits, .int v_parity, .int v_stops, .int v_idle, .int v_frames, .int v_failed, .int v_failedAt, .int v_margin, .ref o_letters, .ref o_starts, .int v_bestFrames, .ref o_bestLetters, .int v_alike, .int v_fitting, .ref o_deep, .ref o_worth, .int v_readLevel, .int v_readMany, .ref o_readTicks, .int v_part, .int v_ten])), (o_diary, .inl (cI, 5054, .inl v_diary)), (o_now, .inl (cI, 361, .inl v_now))] rfl ?_
  refine g_iconst C (0 : Int32) dX10_undo_36 rfl ?_
  refine g_istore_n C [(1, .int (0 : Int32)), (0, .ref o)] dX10_undo_37 rfl (by decide) rfl ?_
  refine g_lv [1, 0] rfl ?_
  exact H38 fu  (0 : Int32) (v_acts - (1 : Int32)) (irm ((v_next + (14 : Int32)) - (1 : Int32)) (14 : Int32)) v_now h
abbrev rmX10_guess : Room := { frames := 4, cells := 0, slots := 0, locals := 97 }
def wp_X10_guess (fu : Nat) (v_now : (Nat → Int32)) (x1 : Int32) (x2 : Int32) (v_bits : Int32) (v_failed : Int32) (v_failedAt : Int32) (v_frames : Int32) (v_idle : Int32) (v_margin : Int32) (v_parity : Int32) (v_stops : Int32) (v_wide : Int32) (v_deep : (Nat → Int32)) (v_letters : (Nat → Int32)) (v_starts : (Nat → Int32)) (Q : Int32 → Int32 → Int32 → Int32 → Int32 → Int32 → Int32 → Int32 → Int32 → Int32 → (Nat → Int32) → (Nat → Int32) → (Nat → Int32) → Prop) : Prop := wp_X10_layCode fu x1 v_bits v_idle v_parity v_stops v_wide (fun (r6 : Int32) (z1 : Int32) (z2 : Int32) (z3 : Int32) (z4 : Int32) (z5 : Int32) => (if r6 = 0 then Q (-2 : Int32) z1 v_failed v_failedAt v_frames z2 v_margin z3 z4 z5 v_deep v_letters v_starts else wp_X10_in fu (Int32.toInt64 x2) (0 : Int64) (4 : Int64) (fun (r8 : Int32) => (if r8 = 0 then Q (-2 : Int32) z1 v_failed v_failedAt v_frames z2 v_margin z3 z4 z5 v_deep v_letters v_starts else wp_X10_layDeep fu v_now v_deep (fun (z10 : (Nat → Int32)) => wp_X10_read fu z1 z2 z3 z4 z5 z10 v_now v_failed v_failedAt v_frames v_margin v_letters v_starts (fun (z11 : Int32) (z12 : Int32) (z13 : Int32) (z14 : Int32) (z15 : (Nat → Int32)) (z16 : (Nat → Int32)) => (if x2 = (0 : Int32) then Q z13 z1 z11 z12 z13 z2 z14 z3 z4 z5 z10 z15 z16 else (if x2 = (1 : Int32) then wp_X10_fits fu z11 z13 (fun (r17 : Int32) => (if r17 = 0 then Q (0 : Int32) z1 z11 z12 z13 z2 z14 z3 z4 z5 z10 z15 z16 else Q (1 : Int32) z1 z11 z12 z13 z2 z14 z3 z4 z5 z10 z15 z16)) else (if x2 = (2 : Int32) then Q z11 z1 z11 z12 z13 z2 z14 z3 z4 z5 z10 z15 z16 else (if x2 = (3 : Int32) then Q z12 z1 z11 z12 z13 z2 z14 z3 z4 z5 z10 z15 z16 else wp_X10_fits fu z11 z13 (fun (r19 : Int32) => (if r19 = 0 then Q (-9 : Int32) z1 z11 z12 z13 z2 z14 z3 z4 z5 z10 z15 z16 else Q z14 z1 z11 z12 z13 z2 z14 z3 z4 z5 z10 z15 z16))))))))))))
set_option maxHeartbeats 4000000 in
set_option maxRecDepth 100000 in
theorem c_X10_guess (l : Launch) (D : va_G) (cI cJ cZ cW : ClassId) (o o_text o_now o_trial o_diary o_kept o_isKept o_knownPlace o_knownLetter o_letters o_starts o_bestLetters o_deep o_worth o_readTicks : Nat) (v_length : Int32) (v_acts : Int32) (v_next : Int32) (v_known : Int32) (v_seed : Int64) (v_wide : Int32) (v_bits : Int32) (v_parity : Int32) (v_stops : Int32) (v_idle : Int32) (v_frames : Int32) (v_failed : Int32) (v_failedAt : Int32) (v_margin : Int32) (v_bestFrames : Int32) (v_alike : Int32) (v_fitting : Int32) (v_readLevel : Int32) (v_readMany : Int32) (v_part : Int32) (v_ten : Int32) (v_deep : (Nat → Int32)) (v_letters : (Nat → Int32)) (v_now : (Nat → Int32)) (v_starts : (Nat → Int32)) (x1 : Int32) (x2 : Int32) (fu : Nat) (Q : Int32 → Int32 → Int32 → Int32 → Int32 → Int32 → Int32 → Int32 → Int32 → Int32 → (Nat → Int32) → (Nat → Int32) → (Nat → Int32) → Prop) (h : wp_X10_guess fu v_now x1 x2 v_bits v_failed v_failedAt v_frames v_idle v_margin v_parity v_stops v_wide v_deep v_letters v_starts Q) : CtI l yX10_guess wkX10_guess rmX10_guess D (tys4 cI cJ cZ cW) [.ref o, .int x1, .int x2] [(o, .inr (10, [.ref o_text, .int v_length, .ref o_now, .ref o_trial, .ref o_diary, .int v_acts, .int v_next, .ref o_kept, .ref o_isKept, .ref o_knownPlace, .ref o_knownLetter, .int v_known, .long v_seed, .int v_wide, .int v_bits, .int v_parity, .int v_stops, .int v_idle, .int v_frames, .int v_failed, .int v_failedAt, .int v_margin, .ref o_letters, .ref o_starts, .int v_bestFrames, .ref o_bestLetters, .int v_alike, .int v_fitting, .ref o_deep, .ref o_worth, .int v_readLevel, .int v_readMany, .ref o_readTicks, .int v_part, .int v_ten])), (o_deep, .inl (cI, 360, .inl v_deep)), (o_letters, .inl (cI, 64, .inl v_letters)), (o_now, .inl (cI, 361, .inl v_now)), (o_starts, .inl (cI, 64, .inl v_starts))] (fun (r : Int32) (u : Int32 × Int32 × Int32 × Int32 × Int32 × Int32 × Int32 × Int32 × Int32 × (Nat → Int32) × (Nat → Int32) × (Nat → Int32)) => Q r u.1 u.2.1 u.2.2.1 u.2.2.2.1 u.2.2.2.2.1 u.2.2.2.2.2.1 u.2.2.2.2.2.2.1 u.2.2.2.2.2.2.2.1 u.2.2.2.2.2.2.2.2.1 u.2.2.2.2.2.2.2.2.2.1 u.2.2.2.2.2.2.2.2.2.2.1 u.2.2.2.2.2.2.2.2.2.2.2) (fun (u : Int32 × Int32 × Int32 × Int32 × Int32 × Int32 × Int32 × Int32 × Int32 × (Nat → Int32) × (Nat → Int32) × (Nat → Int32)) => [(o, .inr (10, [.ref o_text, .int v_length, .ref o_now, .ref o_trial, .ref o_diary, .int v_acts, .int v_next, .ref o_kept, .ref o_isKept, .ref o_knownPlace, .ref o_knownLetter, .int v_known, .long v_seed, .int u.2.2.2.2.2.2.2.2.1, .int u.1, .int u.2.2.2.2.2.2.1, .int u.2.2.2.2.2.2.2.1, .int u.2.2.2.2.1, .int u.2.2.2.1, .int u.2.1, .int u.2.2.1, .int u.2.2.2.2.2.1, .ref o_letters, .ref o_starts, .int v_bestFrames, .ref o_bestLetters, .int v_alike, .int v_fitting, .ref o_deep, .ref o_worth, .int v_readLevel, .int v_readMany, .ref o_readTicks, .int v_part, .int v_ten])), (o_deep, .inl (cI, 360, .inl u.2.2.2.2.2.2.2.2.2.1)), (o_letters, .inl (cI, 64, .inl u.2.2.2.2.2.2.2.2.2.2.1)), (o_now, .inl (cI, 361, .inl v_now)), (o_starts, .inl (cI, 64, .inl u.2.2.2.2.2.2.2.2.2.2.2))]) := by
  refine CtI.of (S := Int32 × Int32 × Int32 × Int32 × Int32 × Int32 × Int32 × Int32 × Int32 × (Nat → Int32) × (Nat → Int32) × (Nat → Int32)) (y := yX10_guess) (Tc := wkX10_guess) (rm := rmX10_guess) (D := D) (tys := tys4 cI cJ cZ cW) (av := [.ref o, .int x1, .int x2]) (wc := [(o, .inr (10, [.ref o_text, .int v_length, .ref o_now, .ref o_trial, .ref o_diary, .int v_acts, .int v_next, .ref o_kept, .ref o_isKept, .ref o_knownPlace, .ref o_knownLetter, .int v_known, .long v_seed, .int v_wide, .int v_bits, .int v_parity, .int v_stops, .int v_idle, .int v_frames, .int v_failed, .int v_failedAt, .int v_margin, .ref o_letters, .ref o_starts, .int v_bestFrames, .ref o_bestLetters, .int v_alike, .int v_fitting, .ref o_deep, .ref o_worth, .int v_readLevel, .int v_readMany, .ref o_readTicks, .int v_part, .int v_ten])), (o_deep, .inl (cI, 360, .inl v_deep)), (o_letters, .inl (cI, 64, .inl v_letters)), (o_now, .inl (cI, 361, .inl v_now)), (o_starts, .inl (cI, 64, .inl v_starts))]) (post := (fun (r : Int32) (u : Int32 × Int32 × Int32 × Int32 × Int32 × Int32 × Int32 × Int32 × Int32 × (Nat → Int32) × (Nat → Int32) × (Nat → Int32)) => Q r u.1 u.2.1 u.2.2.1 u.2.2.2.1 u.2.2.2.2.1 u.2.2.2.2.2.1 u.2.2.2.2.2.2.1 u.2.2.2.2.2.2.2.1 u.2.2.2.2.2.2.2.2.1 u.2.2.2.2.2.2.2.2.2.1 u.2.2.2.2.2.2.2.2.2.2.1 u.2.2.2.2.2.2.2.2.2.2.2)) (w1 := (fun (u : Int32 × Int32 × Int32 × Int32 × Int32 × Int32 × Int32 × Int32 × Int32 × (Nat → Int32) × (Nat → Int32) × (Nat → Int32)) => [(o, .inr (10, [.ref o_text, .int v_length, .ref o_now, .ref o_trial, .ref o_diary, .int v_acts, .int v_next, .ref o_kept, .ref o_isKept, .ref o_knownPlace, .ref o_knownLetter, .int v_known, .long v_seed, .int u.2.2.2.2.2.2.2.2.1, .int u.1, .int u.2.2.2.2.2.2.1, .int u.2.2.2.2.2.2.2.1, .int u.2.2.2.2.1, .int u.2.2.2.1, .int u.2.1, .int u.2.2.1, .int u.2.2.2.2.2.1, .ref o_letters, .ref o_starts, .int v_bestFrames, .ref o_bestLetters, .int v_alike, .int v_fitting, .ref o_deep, .ref o_worth, .int v_readLevel, .int v_readMany, .ref o_readTicks, .int v_part, .int v_ten])), (o_deep, .inl (cI, 360, .inl u.2.2.2.2.2.2.2.2.2.1)), (o_letters, .inl (cI, 64, .inl u.2.2.2.2.2.2.2.2.2.2.1)), (o_now, .inl (cI, 361, .inl v_now)), (o_starts, .inl (cI, 64, .inl u.2.2.2.2.2.2.2.2.2.2.2))])) (cc := cX10_guess) (maxL := 3) RX10 rfl (by decide +kernel) rfl rfl [(0, .ref o), (1, .int x1), (2, .int x2)] rfl ?_
  intro p e s m args below meth c A Qm C hret
  unfold wp_X10_guess at h
  refine g_aload_n C 0 0 o dX10_guess_0 rfl rfl ?_
  refine g_iload_n C 1 1 x1 dX10_guess_1 rfl rfl ?_
  refine g_callVi (As := [.int x1]) (rest := []) C (c_X10_layCode l D cI cJ cZ cW o o_text o_now o_trial o_diary o_kept o_isKept o_knownPlace o_knownLetter o_letters o_starts o_bestLetters o_deep o_worth o_readTicks v_length v_acts v_next v_known v_seed v_wide v_bits v_parity v_stops v_idle v_frames v_failed v_failedAt v_margin v_bestFrames v_alike v_fitting v_readLevel v_readMany v_part v_ten x1 fu _ h) 1 gd_X10_152 rfl rfl rfl (by decide +kernel) ⟨Nat.le_of_ble_eq_true rfl, Nat.le_of_ble_eq_true rfl⟩ ⟨Nat.le_of_ble_eq_true rfl, Nat.le_of_ble_eq_true rfl⟩ 10 0 rfl rfl rfl rfl (Nat.le_of_ble_eq_true rfl) [0] [some 0, none, none, none, none] rfl rfl rfl dX10_guess_2 (fun r6 u h => ?_)
  obtain ⟨z1, z2, z3, z4, z5⟩ := u
  obtain ⟨hzr6, h⟩ := h
  refine ⟨[(o, .inr (10, [.ref o_text, .int v_length, .ref o_now, .ref o_trial, .ref o_diary, .int v_acts, .int v_next, .ref o_kept, .ref o_isKept, .ref o_knownPlace, .ref o_knownLetter, .int v_known, .long v_seed, .int z5, .int z1, .int z3, .int z4, .int z2, .int v_frames, .int v_failed, .int v_failedAt, .int v_margin, .ref o_letters, .ref o_starts, .int v_bestFrames, .ref o_bestLetters, .int v_alike, .int v_fitting, .ref o_deep, .ref o_worth, .int v_readLevel, .int v_readMany, .ref o_readTicks, .int v_part, .int v_ten])), (o_deep, .inl (cI, 360, .inl v_deep)), (o_letters, .inl (cI, 64, .inl v_letters)), (o_now, .inl (cI, 361, .inl v_now)), (o_starts, .inl (cI, 64, .inl v_starts))], rfl, rfl, rfl, ?_⟩
  refine g_if_eq C 20 dX10_guess_5 (by decide) (fun c7 => ?_) (fun c7 => ?_)
  · have h := wp_t c7 h
    refine g_bipush C (-2 : Int32) dX10_guess_20 rfl ?_
    exact hret _ (z1, v_failed, v_failedAt, v_frames, z2, v_margin, z3, z4, z5, v_deep, v_letters, v_starts) _ _ _ dX10_guess_22 h rfl
  have h := wp_f c7 h
  refine g_iload_n C 2 2 x2 dX10_guess_8 rfl rfl ?_
  refine g_i2l C dX10_guess_9 ?_
  refine g_lconst C (0 : Int64) dX10_guess_10 rfl ?_
  refine g_ldc2 C (4 : Int64) wm_639 dX10_guess_11 ?_
  refine g_callSi0 (As := [.long (Int32.toInt64 x2), .long (0 : Int64), .long (4 : Int64)]) (rest := []) C (c_X10_in l D cI cJ cZ cW (Int32.toInt64 x2) (0 : Int64) (4 : Int64) fu _ h) 3 gd_X10_53 rfl rfl rfl (by decide +kernel) ⟨Nat.le_of_ble_eq_true rfl, Nat.le_of_ble_eq_true rfl⟩ ⟨Nat.le_of_ble_eq_true rfl, Nat.le_of_ble_eq_true rfl⟩ rfl rfl (Nat.le_of_ble_eq_true rfl) [] rfl rfl dX10_guess_14 (fun r8 h => ?_)
  obtain ⟨hzr8, h⟩ := h
  refine g_if_ne C 23 dX10_guess_17 (by decide) (fun c9 => ?_) (fun c9 => ?_)
  rotate_left
  · have h := wp_t c9 h
    refine g_bipush C (-2 : Int32) dX10_guess_20 rfl ?_
    exact hret _ (z1, v_failed, v_failedAt, v_frames, z2, v_margin, z3, z4, z5, v_deep, v_letters, v_starts) _ _ _ dX10_guess_22 h rfl
  have h := wp_f c9 h
  refine g_aload_n C 0 0 o dX10_guess_23 rfl rfl ?_
  refine g_aload_n C 0 0 o dX10_guess_24 rfl rfl ?_
  refine g_get C 10 ix_10 0 _ rfl rfl 2 (by decide) wm_128 rfl (.ref o_now) rfl dX10_guess_25 ?_
  refine g_callVv (As := [.ref o_now]) (rest := []) C (c_X10_layDeep l D cI cJ cZ cW o o_text o_now o_trial o_diary o_kept o_isKept o_knownPlace o_knownLetter o_letters o_starts o_bestLetters o_deep o_worth o_readTicks o_now v_length v_acts v_next v_known v_seed z5 z1 z3 z4 z2 v_frames v_failed v_failedAt v_margin v_bestFrames v_alike v_fitting v_readLevel v_readMany v_part v_ten v_deep v_now fu _ h) 1 gd_X10_141 rfl rfl rfl (by decide +kernel) ⟨Nat.le_of_ble_eq_true rfl, Nat.le_of_ble_eq_true rfl⟩ ⟨Nat.le_of_ble_eq_true rfl, Nat.le_of_ble_eq_true rfl⟩ 10 0 rfl rfl rfl rfl (Nat.le_of_ble_eq_true rfl) [0, 1, 3] [some 0, some 1, none, some 2, none] rfl rfl rfl dX10_guess_28 (fun u h => ?_)
  obtain ⟨z10, rfl⟩ : ∃ z, z = u := ⟨_, rfl⟩
  refine ⟨[(o, .inr (10, [.ref o_text, .int v_length, .ref o_now, .ref o_trial, .ref o_diary, .int v_acts, .int v_next, .ref o_kept, .ref o_isKept, .ref o_knownPlace, .ref o_knownLetter, .int v_known, .long v_seed, .int z5, .int z1, .int z3, .int z4, .int z2, .int v_frames, .int v_failed, .int v_failedAt, .int v_margin, .ref o_letters, .ref o_starts, .int v_bestFrames, .ref o_bestLetters, .int v_alike, .int v_fitting, .ref o_deep, .ref o_worth, .int v_readLevel, .int v_readMany, .ref o_readTicks, .int v_part, .int v_ten])), (o_deep, .inl (cI, 360, .inl z10)), (o_letters, .inl (cI, 64, .inl v_letters)), (o_now, .inl (cI, 361, .inl v_now)), (o_starts, .inl (cI, 64, .inl v_starts))], rfl, rfl, rfl, ?_⟩
  refine g_aload_n C 0 0 o dX10_guess_31 rfl rfl ?_
  refine g_aload_n C 0 0 o dX10_guess_32 rfl rfl ?_
  refine g_get C 10 ix_10 0 _ rfl rfl 2 (by decide) wm_128 rfl (.ref o_now) rfl dX10_guess_33 ?_
  refine g_callVv (As := [.ref o_now]) (rest := []) C (c_X10_read l D cI cJ cZ cW o o_text o_now o_trial o_diary o_kept o_isKept o_knownPlace o_knownLetter o_letters o_starts o_bestLetters o_deep o_worth o_readTicks o_now v_length v_acts v_next v_known v_seed z5 z1 z3 z4 z2 v_frames v_failed v_failedAt v_margin v_bestFrames v_alike v_fitting v_readLevel v_readMany v_part v_ten z10 v_letters v_starts v_now fu _ h) 1 gd_X10_155 rfl rfl rfl (by decide +kernel) ⟨Nat.le_of_ble_eq_true rfl, Nat.le_of_ble_eq_true rfl⟩ ⟨Nat.le_of_ble_eq_true rfl, Nat.le_of_ble_eq_true rfl⟩ 10 0 rfl rfl rfl rfl (Nat.le_of_ble_eq_true rfl) [0, 1, 2, 4, 3] [some 0, some 1, some 2, some 4, some 3] rfl rfl rfl dX10_guess_36 (fun u h => ?_)
  obtain ⟨z11, z12, z13, z14, z15, z16⟩ := u
  refine ⟨[(o, .inr (10, [.ref o_text, .int v_length, .ref o_now, .ref o_trial, .ref o_diary, .int v_acts, .int v_next, .ref o_kept, .ref o_isKept, .ref o_knownPlace, .ref o_knownLetter, .int v_known, .long v_seed, .int z5, .int z1, .int z3, .int z4, .int z2, .int z13, .int z11, .int z12, .int z14, .ref o_letters, .ref o_starts, .int v_bestFrames, .ref o_bestLetters, .int v_alike, .int v_fitting, .ref o_deep, .ref o_worth, .int v_readLevel, .int v_readMany, .ref o_readTicks, .int v_part, .int v_ten])), (o_deep, .inl (cI, 360, .inl z10)), (o_letters, .inl (cI, 64, .inl z15)), (o_now, .inl (cI, 361, .inl v_now)), (o_starts, .inl (cI, 64, .inl z16))], rfl, rfl, rfl, ?_⟩
  refine g_iload_n C 2 2 x2 dX10_guess_39 rfl rfl ?_
  by_cases c21 : x2 = (0 : Int32)
  · have h := wp_t c21 h
    refine g_tableIn C (0) (32) 72 (by rw [c21]; rfl) dX10_guess_40 (by decide) rfl (by decide) ?_
    refine g_aload_n C 0 0 o dX10_guess_72 rfl rfl ?_
    refine g_get C 10 ix_10 0 _ rfl rfl 18 (by decide) wm_396 rfl (.int z13) rfl dX10_guess_73 ?_
    exact hret _ (z1, z11, z12, z13, z2, z14, z3, z4, z5, z10, z15, z16) _ _ _ dX10_guess_76 h rfl
  have h := wp_f c21 h
  by_cases c22 : x2 = (1 : Int32)
  · have h := wp_t c22 h
    refine g_tableIn C (1) (37) 77 (by rw [c22]; rfl) dX10_guess_40 (by decide) rfl (by decide) ?_
    refine g_aload_n C 0 0 o dX10_guess_77 rfl rfl ?_
    refine g_callVi0 (As := []) (rest := []) C (c_X10_fits l D cI cJ cZ cW o o_text o_now o_trial o_diary o_kept o_isKept o_knownPlace o_knownLetter o_letters o_starts o_bestLetters o_deep o_worth o_readTicks v_length v_acts v_next v_known v_seed z5 z1 z3 z4 z2 z13 z11 z12 z14 v_bestFrames v_alike v_fitting v_readLevel v_readMany v_part v_ten fu _ h) 0 gd_X10_158 rfl rfl rfl (by decide +kernel) ⟨Nat.le_of_ble_eq_true rfl, Nat.le_of_ble_eq_true rfl⟩ ⟨Nat.le_of_ble_eq_true rfl, Nat.le_of_ble_eq_true rfl⟩ 10 0 rfl rfl rfl rfl (Nat.le_of_ble_eq_true rfl) [0] rfl rfl dX10_guess_78 (fun r17 h => ?_)
    obtain ⟨hzr17, h⟩ := h
    refine g_if_eq C 88 dX10_guess_81 (by decide) (fun c18 => ?_) (fun c18 => ?_)
    · have h := wp_t c18 h
      refine g_iconst C (0 : Int32) dX10_guess_88 rfl ?_
      exact hret _ (z1, z11, z12, z13, z2, z14, z3, z4, z5, z10, z15, z16) _ _ _ dX10_guess_89 h rfl
    have h := wp_f c18 h
    refine g_iconst C (1 : Int32) dX10_guess_84 rfl ?_
    refine g_goto C 89 dX10_guess_85 (by decide) ?_
    exact hret _ (z1, z11, z12, z13, z2, z14, z3, z4, z5, z10, z15, z16) _ _ _ dX10_guess_89 h rfl
  have h := wp_f c22 h
  by_cases c23 : x2 = (2 : Int32)
  · have h := wp_t c23 h
    refine g_tableIn C (2) (50) 90 (by rw [c23]; rfl) dX10_guess_40 (by decide) rfl (by decide) ?_
    refine g_aload_n C 0 0 o dX10_guess_90 rfl rfl ?_
    refine g_get C 10 ix_10 0 _ rfl rfl 19 (by decide) wm_421 rfl (.int z11) rfl dX10_guess_91 ?_
    exact hret _ (z1, z11, z12, z13, z2, z14, z3, z4, z5, z10, z15, z16) _ _ _ dX10_guess_94 h rfl
  have h := wp_f c23 h
  by_cases c24 : x2 = (3 : Int32)
  · have h := wp_t c24 h
    refine g_tableIn C (3) (55) 95 (by rw [c24]; rfl) dX10_guess_40 (by decide) rfl (by decide) ?_
    refine g_aload_n C 0 0 o dX10_guess_95 rfl rfl ?_
    refine g_get C 10 ix_10 0 _ rfl rfl 20 (by decide) wm_422 rfl (.int z12) rfl dX10_guess_96 ?_
    exact hret _ (z1, z11, z12, z13, z2, z14, z3, z4, z5, z10, z15, z16) _ _ _ dX10_guess_99 h rfl
  have h := wp_f c24 h
  refine g_tableOut C 100 dX10_guess_40 (sw_out (0) (3) (by decide) (fun v h1 h2 => ?_)) (by decide) ?_
  · rcases (show v = 0 ∨ v = 1 ∨ v = 2 ∨ v = 3 by omega) with rfl | rfl | rfl | rfl
    · exact fun hq => c21 (Int32.toInt_inj.mp (hq.trans rfl))
    · exact fun hq => c22 (Int32.toInt_inj.mp (hq.trans rfl))
    · exact fun hq => c23 (Int32.toInt_inj.mp (hq.trans rfl))
    · exact fun hq => c24 (Int32.toInt_inj.mp (hq.trans rfl))
  refine g_aload_n C 0 0 o dX10_guess_100 rfl rfl ?_
  refine g_callVi0 (As := []) (rest := []) C (c_X10_fits l D cI cJ cZ cW o o_text o_now o_trial o_diary o_kept o_isKept o_knownPlace o_knownLetter o_letters o_starts o_bestLetters o_deep o_worth o_readTicks v_length v_acts v_next v_known v_seed z5 z1 z3 z4 z2 z13 z11 z12 z14 v_bestFrames v_alike v_fitting v_readLevel v_readMany v_part v_ten fu _ h) 0 gd_X10_158 rfl rfl rfl (by decide +kernel) ⟨Nat.le_of_ble_eq_true rfl, Nat.le_of_ble_eq_true rfl⟩ ⟨Nat.le_of_ble_eq_true rfl, Nat.le_of_ble_eq_true rfl⟩ 10 0 rfl rfl rfl rfl (Nat.le_of_ble_eq_true rfl) [0] rfl rfl dX10_guess_101 (fun r19 h => ?_)
  obtain ⟨hzr19, h⟩ := h
  refine g_if_eq C 114 dX10_guess_104 (by decide) (fun c20 => ?_) (fun c20 => ?_)
  · have h := wp_t c20 h
    refine g_bipush C (-9 : Int32) dX10_guess_114 rfl ?_
    exact hret _ (z1, z11, z12, z13, z2, z14, z3, z4, z5, z10, z15, z16) _ _ _ dX10_guess_116 h rfl
  have h := wp_f c20 h
  refine g_aload_n C 0 0 o dX10_guess_107 rfl rfl ?_
  refine g_get C 10 ix_10 0 _ rfl rfl 21 (by decide) wm_395 rfl (.int z14) rfl dX10_guess_108 ?_
  refine g_goto C 116 dX10_guess_111 (by decide) ?_
  exact hret _ (z1, z11, z12, z13, z2, z14, z3, z4, z5, z10, z15, z16) _ _ _ dX10_guess_116 h rfl
abbrev rmX10_letter : Room := { frames := 4, cells := 0, slots := 0, locals := 97 }
def wp_X10_letter (fu : Nat) (v_deep : (Nat → Int32)) (v_now : (Nat → Int32)) (x1 : Int32) (x2 : Int32) (x3 : Int32) (v_bits : Int32) (v_failed : Int32) (v_failedAt : Int32) (v_frames : Int32) (v_idle : Int32) (v_margin : Int32) (v_parity : Int32) (v_stops : Int32) (v_wide : Int32) (v_letters : (Nat → Int32)) (v_starts : (Nat → Int32)) (Q : Int32 → Int32 → Int32 → Int32 → Int32 → Int32 → Int32 → Int32 → Int32 → Int32 → (Nat → Int32) → (Nat → Int32) → Prop) : Prop := wp_X10_layCode fu x1 v_bits v_idle v_parity v_stops v_wide (fun (r6 : Int32) (z1 : Int32) (z2 : Int32) (z3 : Int32) (z4 : Int32) (z5 : Int32) => (if r6 = 0 then Q (-2 : Int32) z1 v_failed v_failedAt v_frames z2 v_margin z3 z4 z5 v_letters v_starts else wp_X10_read fu z1 z2 z3 z4 z5 v_deep v_now v_failed v_failedAt v_frames v_margin v_letters v_starts (fun (z8 : Int32) (z9 : Int32) (z10 : Int32) (z11 : Int32) (z12 : (Nat → Int32)) (z13 : (Nat → Int32)) => wp_X10_in fu (Int32.toInt64 x2) (0 : Int64) (Int32.toInt64 (z10 - (1 : Int32))) (fun (r14 : Int32) => (if r14 = 0 then Q (-9 : Int32) z1 z8 z9 z10 z2 z11 z3 z4 z5 z12 z13 else (if x3 = 0 then (vp_in x2 64 ∧ Q (z12 (ix x2)) z1 z8 z9 z10 z2 z11 z3 z4 z5 z12 z13) else (vp_in x2 64 ∧ Q (z13 (ix x2)) z1 z8 z9 z10 z2 z11 z3 z4 z5 z12 z13)))))))
set_option maxHeartbeats 4000000 in
set_option maxRecDepth 100000 in
theorem c_X10_letter (l : Launch) (D : va_G) (cI cJ cZ cW : ClassId) (o o_text o_now o_trial o_diary o_kept o_isKept o_knownPlace o_knownLetter o_letters o_starts o_bestLetters o_deep o_worth o_readTicks : Nat) (v_length : Int32) (v_acts : Int32) (v_next : Int32) (v_known : Int32) (v_seed : Int64) (v_wide : Int32) (v_bits : Int32) (v_parity : Int32) (v_stops : Int32) (v_idle : Int32) (v_frames : Int32) (v_failed : Int32) (v_failedAt : Int32) (v_margin : Int32) (v_bestFrames : Int32) (v_alike : Int32) (v_fitting : Int32) (v_readLevel : Int32) (v_readMany : Int32) (v_part : Int32) (v_ten : Int32) (v_deep : (Nat → Int32)) (v_letters : (Nat → Int32)) (v_now : (Nat → Int32)) (v_starts : (Nat → Int32)) (x1 : Int32) (x2 : Int32) (x3 : Int32) (fu : Nat) (Q : Int32 → Int32 → Int32 → Int32 → Int32 → Int32 → Int32 → Int32 → Int32 → Int32 → (Nat → Int32) → (Nat → Int32) → Prop) (h : wp_X10_letter fu v_deep v_now x1 x2 x3 v_bits v_failed v_failedAt v_frames v_idle v_margin v_parity v_stops v_wide v_letters v_starts Q) : CtI l yX10_letter wkX10_letter rmX10_letter D (tys4 cI cJ cZ cW) [.ref o, .int x1, .int x2, .int x3] [(o, .inr (10, [.ref o_text, .int v_length, .ref o_now, .ref o_trial, .ref o_diary, .int v_acts, .int v_next, .ref o_kept, .ref o_isKept, .ref o_knownPlace, .ref o_knownLetter, .int v_known, .long v_seed, .int v_wide, .int v_bits, .int v_parity, .int v_stops, .int v_idle, .int v_frames, .int v_failed, .int v_failedAt, .int v_margin, .ref o_letters, .ref o_starts, .int v_bestFrames, .ref o_bestLetters, .int v_alike, .int v_fitting, .ref o_deep, .ref o_worth, .int v_readLevel, .int v_readMany, .ref o_readTicks, .int v_part, .int v_ten])), (o_deep, .inl (cI, 360, .inl v_deep)), (o_letters, .inl (cI, 64, .inl v_letters)), (o_now, .inl (cI, 361, .inl v_now)), (o_starts, .inl (cI, 64, .inl v_starts))] (fun (r : Int32) (u : Int32 × Int32 × Int32 × Int32 × Int32 × Int32 × Int32 × Int32 × Int32 × (Nat → Int32) × (Nat → Int32)) => Q r u.1 u.2.1 u.2.2.1 u.2.2.2.1 u.2.2.2.2.1 u.2.2.2.2.2.1 u.2.2.2.2.2.2.1 u.2.2.2.2.2.2.2.1 u.2.2.2.2.2.2.2.2.1 u.2.2.2.2.2.2.2.2.2.1 u.2.2.2.2.2.2.2.2.2.2) (fun (u : Int32 × Int32 × Int32 × Int32 × Int32 × Int32 × Int32 × Int32 × Int32 × (Nat → Int32) × (Nat → Int32)) => [(o, .inr (10, [.ref o_text, .int v_length, .ref o_now, .ref o_trial, .ref o_diary, .int v_acts, .int v_next, .ref o_kept, .ref o_isKept, .ref o_knownPlace, .ref o_knownLetter, .int v_known, .long v_seed, .int u.2.2.2.2.2.2.2.2.1, .int u.1, .int u.2.2.2.2.2.2.1, .int u.2.2.2.2.2.2.2.1, .int u.2.2.2.2.1, .int u.2.2.2.1, .int u.2.1, .int u.2.2.1, .int u.2.2.2.2.2.1, .ref o_letters, .ref o_starts, .int v_bestFrames, .ref o_bestLetters, .int v_alike, .int v_fitting, .ref o_deep, .ref o_worth, .int v_readLevel, .int v_readMany, .ref o_readTicks, .int v_part, .int v_ten])), (o_deep, .inl (cI, 360, .inl v_deep)), (o_letters, .inl (cI, 64, .inl u.2.2.2.2.2.2.2.2.2.1)), (o_now, .inl (cI, 361, .inl v_now)), (o_starts, .inl (cI, 64, .inl u.2.2.2.2.2.2.2.2.2.2))]) := by
  refine CtI.of (S := Int32 × Int32 × Int32 × Int32 × Int32 × Int32 × Int32 × Int32 × Int32 × (Nat → Int32) × (Nat → Int32)) (y := yX10_letter) (Tc := wkX10_letter) (rm := rmX10_letter) (D := D) (tys := tys4 cI cJ cZ cW) (av := [.ref o, .int x1, .int x2, .int x3]) (wc := [(o, .inr (10, [.ref o_text, .int v_length, .ref o_now, .ref o_trial, .ref o_diary, .int v_acts, .int v_next, .ref o_kept, .ref o_isKept, .ref o_knownPlace, .ref o_knownLetter, .int v_known, .long v_seed, .int v_wide, .int v_bits, .int v_parity, .int v_stops, .int v_idle, .int v_frames, .int v_failed, .int v_failedAt, .int v_margin, .ref o_letters, .ref o_starts, .int v_bestFrames, .ref o_bestLetters, .int v_alike, .int v_fitting, .ref o_deep, .ref o_worth, .int v_readLevel, .int v_readMany, .ref o_readTicks, .int v_part, .int v_ten])), (o_deep, .inl (cI, 360, .inl v_deep)), (o_letters, .inl (cI, 64, .inl v_letters)), (o_now, .inl (cI, 361, .inl v_now)), (o_starts, .inl (cI, 64, .inl v_starts))]) (post := (fun (r : Int32) (u : Int32 × Int32 × Int32 × Int32 × Int32 × Int32 × Int32 × Int32 × Int32 × (Nat → Int32) × (Nat → Int32)) => Q r u.1 u.2.1 u.2.2.1 u.2.2.2.1 u.2.2.2.2.1 u.2.2.2.2.2.1 u.2.2.2.2.2.2.1 u.2.2.2.2.2.2.2.1 u.2.2.2.2.2.2.2.2.1 u.2.2.2.2.2.2.2.2.2.1 u.2.2.2.2.2.2.2.2.2.2)) (w1 := (fun (u : Int32 × Int32 × Int32 × Int32 × Int32 × Int32 × Int32 × Int32 × Int32 × (Nat → Int32) × (Nat → Int32)) => [(o, .inr (10, [.ref o_text, .int v_length, .ref o_now, .ref o_trial, .ref o_diary, .int v_acts, .int v_next, .ref o_kept, .ref o_isKept, .ref o_knownPlace, .ref o_knownLetter, .int v_known, .long v_seed, .int u.2.2.2.2.2.2.2.2.1, .int u.1, .int u.2.2.2.2.2.2.1, .int u.2.2.2.2.2.2.2.1, .int u.2.2.2.2.1, .int u.2.2.2.1, .int u.2.1, .int u.2.2.1, .int u.2.2.2.2.2.1, .ref o_letters, .ref o_starts, .int v_bestFrames, .ref o_bestLetters, .int v_alike, .int v_fitting, .ref o_deep, .ref o_worth, .int v_readLevel, .int v_readMany, .ref o_readTicks, .int v_part, .int v_ten])), (o_deep, .inl (cI, 360, .inl v_deep)), (o_letters, .inl (cI, 64, .inl u.2.2.2.2.2.2.2.2.2.1)), (o_now, .inl (cI, 361, .inl v_now)), (o_starts, .inl (cI, 64, .inl u.2.2.2.2.2.2.2.2.2.2))])) (cc := cX10_letter) (maxL := 4) RX10 rfl (by decide +kernel) rfl rfl [(0, .ref o), (1, .int x1), (2, .int x2), (3, .int x3)] rfl ?_
  intro p e s m args below meth c A Qm C hret
  unfold wp_X10_letter at h
  refine g_aload_n C 0 0 o dX10_letter_0 rfl rfl ?_
  refine g_iload_n C 1 1 x1 dX10_letter_1 rfl rfl ?_
  refine g_callVi (As := [.int x1]) (rest := []) C (c_X10_layCode l D cI cJ cZ cW o o_text o_now o_trial o_diary o_kept o_isKept o_knownPlace o_knownLetter o_letters o_starts o_bestLetters o_deep o_worth o_readTicks v_length v_acts v_next v_known v_seed v_wide v_bits v_parity v_stops v_idle v_frames v_failed v_failedAt v_margin v_bestFrames v_alike v_fitting v_readLevel v_readMany v_part v_ten x1 fu _ h) 1 gd_X10_152 rfl rfl rfl (by decide +kernel) ⟨Nat.le_of_ble_eq_true rfl, Nat.le_of_ble_eq_true rfl⟩ ⟨Nat.le_of_ble_eq_true rfl, Nat.le_of_ble_eq_true rfl⟩ 10 0 rfl rfl rfl rfl (Nat.le_of_ble_eq_true rfl) [0] [some 0, none, none, none, none] rfl rfl rfl dX10_letter_2 (fun r6 u h => ?_)
  obtain ⟨z1, z2, z3, z4, z5⟩ := u
  obtain ⟨hzr6, h⟩ := h
  refine ⟨[(o, .inr (10, [.ref o_text, .int v_length, .ref o_now, .ref o_trial, .ref o_diary, .int v_acts, .int v_next, .ref o_kept, .ref o_isKept, .ref o_knownPlace, .ref o_knownLetter, .int v_known, .long v_seed, .int z5, .int z1, .int z3, .int z4, .int z2, .int v_frames, .int v_failed, .int v_failedAt, .int v_margin, .ref o_letters, .ref o_starts, .int v_bestFrames, .ref o_bestLetters, .int v_alike, .int v_fitting, .ref o_deep, .ref o_worth, .int v_readLevel, .int v_readMany, .ref o_readTicks, .int v_part, .int v_ten])), (o_deep, .inl (cI, 360, .inl v_deep)), (o_letters, .inl (cI, 64, .inl v_letters)), (o_now, .inl (cI, 361, .inl v_now)), (o_starts, .inl (cI, 64, .inl v_starts))], rfl, rfl, rfl, ?_⟩
  refine g_if_ne C 11 dX10_letter_5 (by decide) (fun c7 => ?_) (fun c7 => ?_)
  rotate_left
  · have h := wp_t c7 h
    refine g_bipush C (-2 : Int32) dX10_letter_8 rfl ?_
    exact hret _ (z1, v_failed, v_failedAt, v_frames, z2, v_margin, z3, z4, z5, v_letters, v_starts) _ _ _ dX10_letter_10 h rfl
  have h := wp_f c7 h
  refine g_aload_n C 0 0 o dX10_letter_11 rfl rfl ?_
  refine g_aload_n C 0 0 o dX10_letter_12 rfl rfl ?_
  refine g_get C 10 ix_10 0 _ rfl rfl 2 (by decide) wm_128 rfl (.ref o_now) rfl dX10_letter_13 ?_
  refine g_callVv (As := [.ref o_now]) (rest := []) C (c_X10_read l D cI cJ cZ cW o o_text o_now o_trial o_diary o_kept o_isKept o_knownPlace o_knownLetter o_letters o_starts o_bestLetters o_deep o_worth o_readTicks o_now v_length v_acts v_next v_known v_seed z5 z1 z3 z4 z2 v_frames v_failed v_failedAt v_margin v_bestFrames v_alike v_fitting v_readLevel v_readMany v_part v_ten v_deep v_letters v_starts v_now fu _ h) 1 gd_X10_155 rfl rfl rfl (by decide +kernel) ⟨Nat.le_of_ble_eq_true rfl, Nat.le_of_ble_eq_true rfl⟩ ⟨Nat.le_of_ble_eq_true rfl, Nat.le_of_ble_eq_true rfl⟩ 10 0 rfl rfl rfl rfl (Nat.le_of_ble_eq_true rfl) [0, 1, 2, 4, 3] [some 0, some 1, some 2, some 4, some 3] rfl rfl rfl dX10_letter_16 (fun u h => ?_)
  obtain ⟨z8, z9, z10, z11, z12, z13⟩ := u
  refine ⟨[(o, .inr (10, [.ref o_text, .int v_length, .ref o_now, .ref o_trial, .ref o_diary, .int v_acts, .int v_next, .ref o_kept, .ref o_isKept, .ref o_knownPlace, .ref o_knownLetter, .int v_known, .long v_seed, .int z5, .int z1, .int z3, .int z4, .int z2, .int z10, .int z8, .int z9, .int z11, .ref o_letters, .ref o_starts, .int v_bestFrames, .ref o_bestLetters, .int v_alike, .int v_fitting, .ref o_deep, .ref o_worth, .int v_readLevel, .int v_readMany, .ref o_readTicks, .int v_part, .int v_ten])), (o_deep, .inl (cI, 360, .inl v_deep)), (o_letters, .inl (cI, 64, .inl z12)), (o_now, .inl (cI, 361, .inl v_now)), (o_starts, .inl (cI, 64, .inl z13))], rfl, rfl, rfl, ?_⟩
  refine g_iload_n C 2 2 x2 dX10_letter_19 rfl rfl ?_
  refine g_i2l C dX10_letter_20 ?_
  refine g_lconst C (0 : Int64) dX10_letter_21 rfl ?_
  refine g_aload_n C 0 0 o dX10_letter_22 rfl rfl ?_
  refine g_get C 10 ix_10 0 _ rfl rfl 18 (by decide) wm_396 rfl (.int z10) rfl dX10_letter_23 ?_
  refine g_iconst C (1 : Int32) dX10_letter_26 rfl ?_
  refine g_isub C dX10_letter_27 ?_
  refine g_i2l C dX10_letter_28 ?_
  refine g_callSi0 (As := [.long (Int32.toInt64 x2), .long (0 : Int64), .long (Int32.toInt64 (z10 - (1 : Int32)))]) (rest := []) C (c_X10_in l D cI cJ cZ cW (Int32.toInt64 x2) (0 : Int64) (Int32.toInt64 (z10 - (1 : Int32))) fu _ h) 3 gd_X10_53 rfl rfl rfl (by decide +kernel) ⟨Nat.le_of_ble_eq_true rfl, Nat.le_of_ble_eq_true rfl⟩ ⟨Nat.le_of_ble_eq_true rfl, Nat.le_of_ble_eq_true rfl⟩ rfl rfl (Nat.le_of_ble_eq_true rfl) [] rfl rfl dX10_letter_29 (fun r14 h => ?_)
  obtain ⟨hzr14, h⟩ := h
  refine g_if_ne C 38 dX10_letter_32 (by decide) (fun c15 => ?_) (fun c15 => ?_)
  rotate_left
  · have h := wp_t c15 h
    refine g_bipush C (-9 : Int32) dX10_letter_35 rfl ?_
    exact hret _ (z1, z8, z9, z10, z2, z11, z3, z4, z5, z12, z13) _ _ _ dX10_letter_37 h rfl
  have h := wp_f c15 h
  refine g_iload_n C 3 3 x3 dX10_letter_38 rfl rfl ?_
  refine g_if_eq C 51 dX10_letter_39 (by decide) (fun c16 => ?_) (fun c16 => ?_)
  · have h := wp_t c16 h
    refine g_aload_n C 0 0 o dX10_letter_51 rfl rfl ?_
    refine g_get C 10 ix_10 0 _ rfl rfl 22 (by decide) wm_135 rfl (.ref o_letters) rfl dX10_letter_52 ?_
    refine g_iload_n C 2 2 x2 dX10_letter_55 rfl rfl ?_
    obtain ⟨hi17, h⟩ := h
    refine g_iald C 2 0 cI 64 z12 rfl rfl hi17 dX10_letter_56 ?_
    exact hret _ (z1, z8, z9, z10, z2, z11, z3, z4, z5, z12, z13) _ _ _ dX10_letter_57 h rfl
  have h := wp_f c16 h
  refine g_aload_n C 0 0 o dX10_letter_42 rfl rfl ?_
  refine g_get C 10 ix_10 0 _ rfl rfl 23 (by decide) wm_136 rfl (.ref o_starts) rfl dX10_letter_43 ?_
  refine g_iload_n C 2 2 x2 dX10_letter_46 rfl rfl ?_
  obtain ⟨hi18, h⟩ := h
  refine g_iald C 4 0 cI 64 z13 rfl rfl hi18 dX10_letter_47 ?_
  refine g_goto C 57 dX10_letter_48 (by decide) ?_
  exact hret _ (z1, z8, z9, z10, z2, z11, z3, z4, z5, z12, z13) _ _ _ dX10_letter_57 h rfl
abbrev rmX10_judged : Room := { frames := 5, cells := 0, slots := 0, locals := 123 }
def wX10_judged_229 (fu : Nat) (x1 : Int32) (x2 : Int32) (Q : Int32 → Int32 → Int32 → Int32 → Int32 → Int32 → Int32 → Int32 → Int32 → Int32 → Int32 → Int32 → (Nat → Int32) → (Nat → Int32) → (Nat → Int32) → (Nat → Int32) → (Nat → Int32) → Prop) (k0 : Int32) (k1 : Int32) (v_bestFrames : Int32) (v_bits : Int32) (v_failed : Int32) (v_failedAt : Int32) (v_fitting : Int32) (v_frames : Int32) (v_idle : Int32) (v_margin : Int32) (v_parity : Int32) (v_stops : Int32) (v_wide : Int32) (v_bestLetters : (Nat → Int32)) (v_deep : (Nat → Int32)) (v_letters : (Nat → Int32)) (v_starts : (Nat → Int32)) (v_trial : (Nat → Int32)) : Prop := (if k0 = k1 then Q (1 : Int32) v_bestFrames v_bits v_failed v_failedAt v_fitting v_frames v_idle v_margin v_parity v_stops v_wide v_bestLetters v_deep v_letters v_starts v_trial else Q (0 : Int32) v_bestFrames v_bits v_failed v_failedAt v_fitting v_frames v_idle v_margin v_parity v_stops v_wide v_bestLetters v_deep v_letters v_starts v_trial)
def wX10_judged_204 (fu : Nat) (x1 : Int32) (x2 : Int32) (Q : Int32 → Int32 → Int32 → Int32 → Int32 → Int32 → Int32 → Int32 → Int32 → Int32 → Int32 → Int32 → (Nat → Int32) → (Nat → Int32) → (Nat → Int32) → (Nat → Int32) → (Nat → Int32) → Prop) (k0 : Int32) (v_bestFrames : Int32) (v_bits : Int32) (v_failed : Int32) (v_failedAt : Int32) (v_fitting : Int32) (v_frames : Int32) (v_idle : Int32) (v_margin : Int32) (v_parity : Int32) (v_stops : Int32) (v_wide : Int32) (v_bestLetters : (Nat → Int32)) (v_deep : (Nat → Int32)) (v_letters : (Nat → Int32)) (v_starts : (Nat → Int32)) (v_trial : (Nat → Int32)) : Prop := (if (2 : Int32) ≤ (irm x2 (10 : Int32)) then Q (0 : Int32) v_bestFrames v_bits v_failed v_failedAt v_fitting v_frames v_idle v_margin v_parity v_stops v_wide v_bestLetters v_deep v_letters v_starts v_trial else (if (irm x2 (10 : Int32)) = (1 : Int32) then wX10_judged_229 fu x1 x2 Q k0 (1 : Int32) v_bestFrames v_bits v_failed v_failedAt v_fitting v_frames v_idle v_margin v_parity v_stops v_wide v_bestLetters v_deep v_letters v_starts v_trial else wX10_judged_229 fu x1 x2 Q k0 (0 : Int32) v_bestFrames v_bits v_failed v_failedAt v_fitting v_frames v_idle v_margin v_parity v_stops v_wide v_bestLetters v_deep v_letters v_starts v_trial))
def wX10_judged_203 (fu : Nat) (x1 : Int32) (x2 : Int32) (Q : Int32 → Int32 → Int32 → Int32 → Int32 → Int32 → Int32 → Int32 → Int32 → Int32 → Int32 → Int32 → (Nat → Int32) → (Nat → Int32) → (Nat → Int32) → (Nat → Int32) → (Nat → Int32) → Prop) (v_bestFrames : Int32) (v_bits : Int32) (v_failed : Int32) (v_failedAt : Int32) (v_fitting : Int32) (v_frames : Int32) (v_idle : Int32) (v_margin : Int32) (v_parity : Int32) (v_stops : Int32) (v_wide : Int32) (v_bestLetters : (Nat → Int32)) (v_deep : (Nat → Int32)) (v_letters : (Nat → Int32)) (v_starts : (Nat → Int32)) (v_trial : (Nat → Int32)) : Prop := wX10_judged_204 fu x1 x2 Q (0 : Int32) v_bestFrames v_bits v_failed v_failedAt v_fitting v_frames v_idle v_margin v_parity v_stops v_wide v_bestLetters v_deep v_letters v_starts v_trial
def wp_X10_judged (fu : Nat) (x1 : Int32) (x2 : Int32) (v_bestFrames : Int32) (v_bits : Int32) (v_failed : Int32) (v_failedAt : Int32) (v_fitting : Int32) (v_frames : Int32) (v_idle : Int32) (v_margin : Int32) (v_parity : Int32) (v_stops : Int32) (v_wide : Int32) (v_bestLetters : (Nat → Int32)) (v_deep : (Nat → Int32)) (v_letters : (Nat → Int32)) (v_starts : (Nat → Int32)) (v_trial : (Nat → Int32)) (Q : Int32 → Int32 → Int32 → Int32 → Int32 → Int32 → Int32 → Int32 → Int32 → Int32 → Int32 → Int32 → (Nat → Int32) → (Nat → Int32) → (Nat → Int32) → (Nat → Int32) → (Nat → Int32) → Prop) : Prop := (∀ y1 : Int32, y1 = (x2 / (100 : Int32)) → (∀ y2 : Int32, y2 = (irm x2 (100 : Int32)) → (if x1 = (1 : Int32) then (if (1 : Int32) < y1 then Q (0 : Int32) v_bestFrames v_bits v_failed v_failedAt v_fitting v_frames v_idle v_margin v_parity v_stops v_wide v_bestLetters v_deep v_letters v_starts v_trial else (if y2 = 0 then Q (0 : Int32) v_bestFrames v_bits v_failed v_failedAt v_fitting v_frames v_idle v_margin v_parity v_stops v_wide v_bestLetters v_deep v_letters v_starts v_trial else (if ((v_trial (ix (360 : Int32))) + y2) ≤ (360 : Int32) then wp_X10_hearOn fu y1 y2 v_trial (fun (z6 : (Nat → Int32)) => Q (1 : Int32) v_bestFrames v_bits v_failed v_failedAt v_fitting v_frames v_idle v_margin v_parity v_stops v_wide v_bestLetters v_deep v_letters v_starts z6) else Q (0 : Int32) v_bestFrames v_bits v_failed v_failedAt v_fitting v_frames v_idle v_margin v_parity v_stops v_wide v_bestLetters v_deep v_letters v_starts v_trial))) else (if x1 = (2 : Int32) then wp_X10_isTick fu v_trial x2 (fun (r7 : Int32) => (if r7 = 0 then Q (0 : Int32) v_bestFrames v_bits v_failed v_failedAt v_fitting v_frames v_idle v_margin v_parity v_stops v_wide v_bestLetters v_deep v_letters v_starts v_trial else (vp_in x2 361 ∧ (vp_in x2 361 ∧ Q (1 : Int32) v_bestFrames v_bits v_failed v_failedAt v_fitting v_frames v_idle v_margin v_parity v_stops v_wide v_bestLetters v_deep v_letters v_starts (upd v_trial (ix x2) ((1 : Int32) - (v_trial (ix x2)))))))) else (if x1 = (3 : Int32) then wp_X10_edges fu v_trial (fun (r11 : Int32) => (if r11 = x2 then Q (1 : Int32) v_bestFrames v_bits v_failed v_failedAt v_fitting v_frames v_idle v_margin v_parity v_stops v_wide v_bestLetters v_deep v_letters v_starts v_trial else Q (0 : Int32) v_bestFrames v_bits v_failed v_failedAt v_fitting v_frames v_idle v_margin v_parity v_stops v_wide v_bestLetters v_deep v_letters v_starts v_trial)) else (if x1 = (4 : Int32) then wp_X10_in fu (Int32.toInt64 x2) (1 : Int64) (Int32.toInt64 (v_trial (ix (360 : Int32)))) (fun (r13 : Int32) => (if r13 = 0 then Q (0 : Int32) v_bestFrames v_bits v_failed v_failedAt v_fitting v_frames v_idle v_margin v_parity v_stops v_wide v_bestLetters v_deep v_letters v_starts v_trial else wp_X10_cutOn fu x2 v_trial (fun (z15 : (Nat → Int32)) => Q (1 : Int32) v_bestFrames v_bits v_failed v_failedAt v_fitting v_frames v_idle v_margin v_parity v_stops v_wide v_bestLetters v_deep v_letters v_starts z15))) else (if x1 = (5 : Int32) then wp_X10_best fu v_trial v_bestFrames v_bits v_failed v_failedAt v_fitting v_frames v_idle v_margin v_parity v_stops v_wide v_bestLetters v_deep v_letters v_starts (fun (r31 : Int32) (z16 : Int32) (z17 : Int32) (z18 : Int32) (z19 : Int32) (z20 : Int32) (z21 : Int32) (z22 : Int32) (z23 : Int32) (z24 : Int32) (z25 : Int32) (z26 : Int32) (z27 : (Nat → Int32)) (z28 : (Nat → Int32)) (z29 : (Nat → Int32)) (z30 : (Nat → Int32)) => (if r31 = (-9 : Int32) then wX10_judged_203 fu x1 x2 Q z16 z17 z18 z19 z20 z21 z22 z23 z24 z25 z26 z27 z28 z29 z30 v_trial else (if (r31 / (10000 : Int32)) = (x2 / (10 : Int32)) then wX10_judged_204 fu x1 x2 Q (1 : Int32) z16 z17 z18 z19 z20 z21 z22 z23 z24 z25 z26 z27 z28 z29 z30 v_trial else wX10_judged_203 fu x1 x2 Q z16 z17 z18 z19 z20 z21 z22 z23 z24 z25 z26 z27 z28 z29 z30 v_trial))) else (if x1 = (6 : Int32) then wp_X10_best fu v_trial v_bestFrames v_bits v_failed v_failedAt v_fitting v_frames v_idle v_margin v_parity v_stops v_wide v_bestLetters v_deep v_letters v_starts (fun (r49 : Int32) (z34 : Int32) (z35 : Int32) (z36 : Int32) (z37 : Int32) (z38 : Int32) (z39 : Int32) (z40 : Int32) (z41 : Int32) (z42 : Int32) (z43 : Int32) (z44 : Int32) (z45 : (Nat → Int32)) (z46 : (Nat → Int32)) (z47 : (Nat → Int32)) (z48 : (Nat → Int32)) => (if r49 = (-9 : Int32) then Q (0 : Int32) z34 z35 z36 z37 z38 z39 z40 z41 z42 z43 z44 z45 z46 z47 z48 v_trial else (if (z45 (ix (0 : Int32))) = x2 then Q (1 : Int32) z34 z35 z36 z37 z38 z39 z40 z41 z42 z43 z44 z45 z46 z47 z48 v_trial else Q (0 : Int32) z34 z35 z36 z37 z38 z39 z40 z41 z42 z43 z44 z45 z46 z47 z48 v_trial))) else Q (0 : Int32) v_bestFrames v_bits v_failed v_failedAt v_fitting v_frames v_idle v_margin v_parity v_stops v_wide v_bestLetters v_deep v_letters v_starts v_trial))))))))
set_option maxHeartbeats 4000000 in
set_option maxRecDepth 100000 in
theorem c_X10_judged (l : Launch) (D : va_G) (cI cJ cZ cW : ClassId) (o o_text o_now o_trial o_diary o_kept o_isKept o_knownPlace o_knownLetter o_letters o_starts o_bestLetters o_deep o_worth o_readTicks : Nat) (v_length : Int32) (v_acts : Int32) (v_next : Int32) (v_known : Int32) (v_seed : Int64) (v_wide : Int32) (v_bits : Int32) (v_parity : Int32) (v_stops : Int32) (v_idle : Int32) (v_frames : Int32) (v_failed : Int32) (v_failedAt : Int32) (v_margin : Int32) (v_bestFrames : Int32) (v_alike : Int32) (v_fitting : Int32) (v_readLevel : Int32) (v_readMany : Int32) (v_part : Int32) (v_ten : Int32) (v_bestLetters : (Nat → Int32)) (v_deep : (Nat → Int32)) (v_letters : (Nat → Int32)) (v_starts : (Nat → Int32)) (v_trial : (Nat → Int32)) (x1 : Int32) (x2 : Int32) (fu : Nat) (Q : Int32 → Int32 → Int32 → Int32 → Int32 → Int32 → Int32 → Int32 → Int32 → Int32 → Int32 → Int32 → (Nat → Int32) → (Nat → Int32) → (Nat → Int32) → (Nat → Int32) → (Nat → Int32) → Prop) (h : wp_X10_judged fu x1 x2 v_bestFrames v_bits v_failed v_failedAt v_fitting v_frames v_idle v_margin v_parity v_stops v_wide v_bestLetters v_deep v_letters v_starts v_trial Q) : CtI l yX10_judged wkX10_judged rmX10_judged D (tys4 cI cJ cZ cW) [.ref o, .int x1, .int x2] [(o, .inr (10, [.ref o_text, .int v_length, .ref o_now, .ref o_trial, .ref o_diary, .int v_acts, .int v_next, .ref o_kept, .ref o_isKept, .ref o_knownPlace, .ref o_knownLetter, .int v_known, .long v_seed, .int v_wide, .int v_bits, .int v_parity, .int v_stops, .int v_idle, .int v_frames, .int v_failed, .int v_failedAt, .int v_margin, .ref o_letters, .ref o_starts, .int v_bestFrames, .ref o_bestLetters, .int v_alike, .int v_fitting, .ref o_deep, .ref o_worth, .int v_readLevel, .int v_readMany, .ref o_readTicks, .int v_part, .int v_ten])), (o_bestLetters, .inl (cI, 64, .inl v_bestLetters)), (o_deep, .inl (cI, 360, .inl v_deep)), (o_letters, .inl (cI, 64, .inl v_letters)), (o_starts, .inl (cI, 64, .inl v_starts)), (o_trial, .inl (cI, 361, .inl v_trial))] (fun (r : Int32) (u : Int32 × Int32 × Int32 × Int32 × Int32 × Int32 × Int32 × Int32 × Int32 × Int32 × Int32 × (Nat → Int32) × (Nat → Int32) × (Nat → Int32) × (Nat → Int32) × (Nat → Int32)) => (r = 0 ∨ r = 1) ∧ (fun (r : Int32) (u : Int32 × Int32 × Int32 × Int32 × Int32 × Int32 × Int32 × Int32 × Int32 × Int32 × Int32 × (Nat → Int32) × (Nat → Int32) × (Nat → Int32) × (Nat → Int32) × (Nat → Int32)) => Q r u.1 u.2.1 u.2.2.1 u.2.2.2.1 u.2.2.2.2.1 u.2.2.2.2.2.1 u.2.2.2.2.2.2.1 u.2.2.2.2.2.2.2.1 u.2.2.2.2.2.2.2.2.1 u.2.2.2.2.2.2.2.2.2.1 u.2.2.2.2.2.2.2.2.2.2.1 u.2.2.2.2.2.2.2.2.2.2.2.1 u.2.2.2.2.2.2.2.2.2.2.2.2.1 u.2.2.2.2.2.2.2.2.2.2.2.2.2.1 u.2.2.2.2.2.2.2.2.2.2.2.2.2.2.1 u.2.2.2.2.2.2.2.2.2.2.2.2.2.2.2) r u) (fun (u : Int32 × Int32 × Int32 × Int32 × Int32 × Int32 × Int32 × Int32 × Int32 × Int32 × Int32 × (Nat → Int32) × (Nat → Int32) × (Nat → Int32) × (Nat → Int32) × (Nat → Int32)) => [(o, .inr (10, [.ref o_text, .int v_length, .ref o_now, .ref o_trial, .ref o_diary, .int v_acts, .int v_next, .ref o_kept, .ref o_isKept, .ref o_knownPlace, .ref o_knownLetter, .int v_known, .long v_seed, .int u.2.2.2.2.2.2.2.2.2.2.1, .int u.2.1, .int u.2.2.2.2.2.2.2.2.1, .int u.2.2.2.2.2.2.2.2.2.1, .int u.2.2.2.2.2.2.1, .int u.2.2.2.2.2.1, .int u.2.2.1, .int u.2.2.2.1, .int u.2.2.2.2.2.2.2.1, .ref o_letters, .ref o_starts, .int u.1, .ref o_bestLetters, .int v_alike, .int u.2.2.2.2.1, .ref o_deep, .ref o_worth, .int v_readLevel, .int v_readMany, .ref o_readTicks, .int v_part, .int v_ten])), (o_bestLetters, .inl (cI, 64, .inl u.2.2.2.2.2.2.2.2.2.2.2.1)), (o_deep, .inl (cI, 360, .inl u.2.2.2.2.2.2.2.2.2.2.2.2.1)), (o_letters, .inl (cI, 64, .inl u.2.2.2.2.2.2.2.2.2.2.2.2.2.1)), (o_starts, .inl (cI, 64, .inl u.2.2.2.2.2.2.2.2.2.2.2.2.2.2.1)), (o_trial, .inl (cI, 361, .inl u.2.2.2.2.2.2.2.2.2.2.2.2.2.2.2))]) := by
  refine CtI.ofZ (S := Int32 × Int32 × Int32 × Int32 × Int32 × Int32 × Int32 × Int32 × Int32 × Int32 × Int32 × (Nat → Int32) × (Nat → Int32) × (Nat → Int32) × (Nat → Int32) × (Nat → Int32)) (y := yX10_judged) (Tc := wkX10_judged) (rm := rmX10_judged) (D := D) (tys := tys4 cI cJ cZ cW) (av := [.ref o, .int x1, .int x2]) (wc := [(o, .inr (10, [.ref o_text, .int v_length, .ref o_now, .ref o_trial, .ref o_diary, .int v_acts, .int v_next, .ref o_kept, .ref o_isKept, .ref o_knownPlace, .ref o_knownLetter, .int v_known, .long v_seed, .int v_wide, .int v_bits, .int v_parity, .int v_stops, .int v_idle, .int v_frames, .int v_failed, .int v_failedAt, .int v_margin, .ref o_letters, .ref o_starts, .int v_bestFrames, .ref o_bestLetters, .int v_alike, .int v_fitting, .ref o_deep, .ref o_worth, .int v_readLevel, .int v_readMany, .ref o_readTicks, .int v_part, .int v_ten])), (o_bestLetters, .inl (cI, 64, .inl v_bestLetters)), (o_deep, .inl (cI, 360, .inl v_deep)), (o_letters, .inl (cI, 64, .inl v_letters)), (o_starts, .inl (cI, 64, .inl v_starts)), (o_trial, .inl (cI, 361, .inl v_trial))]) (post := (fun (r : Int32) (u : Int32 × Int32 × Int32 × Int32 × Int32 × Int32 × Int32 × Int32 × Int32 × Int32 × Int32 × (Nat → Int32) × (Nat → Int32) × (Nat → Int32) × (Nat → Int32) × (Nat → Int32)) => Q r u.1 u.2.1 u.2.2.1 u.2.2.2.1 u.2.2.2.2.1 u.2.2.2.2.2.1 u.2.2.2.2.2.2.1 u.2.2.2.2.2.2.2.1 u.2.2.2.2.2.2.2.2.1 u.2.2.2.2.2.2.2.2.2.1 u.2.2.2.2.2.2.2.2.2.2.1 u.2.2.2.2.2.2.2.2.2.2.2.1 u.2.2.2.2.2.2.2.2.2.2.2.2.1 u.2.2.2.2.2.2.2.2.2.2.2.2.2.1 u.2.2.2.2.2.2.2.2.2.2.2.2.2.2.1 u.2.2.2.2.2.2.2.2.2.2.2.2.2.2.2)) (w1 := (fun (u : Int32 × Int32 × Int32 × Int32 × Int32 × Int32 × Int32 × Int32 × Int32 × Int32 × Int32 × (Nat → Int32) × (Nat → Int32) × (Nat → Int32) × (Nat → Int32) × (Nat → Int32)) => [(o, .inr (10, [.ref o_text, .int v_length, .ref o_now, .ref o_trial, .ref o_diary, .int v_acts, .int v_next, .ref o_kept, .ref o_isKept, .ref o_knownPlace, .ref o_knownLetter, .int v_known, .long v_seed, .int u.2.2.2.2.2.2.2.2.2.2.1, .int u.2.1, .int u.2.2.2.2.2.2.2.2.1, .int u.2.2.2.2.2.2.2.2.2.1, .int u.2.2.2.2.2.2.1, .int u.2.2.2.2.2.1, .int u.2.2.1, .int u.2.2.2.1, .int u.2.2.2.2.2.2.2.1, .ref o_letters, .ref o_starts, .int u.1, .ref o_bestLetters, .int v_alike, .int u.2.2.2.2.1, .ref o_deep, .ref o_worth, .int v_readLevel, .int v_readMany, .ref o_readTicks, .int v_part, .int v_ten])), (o_bestLetters, .inl (cI, 64, .inl u.2.2.2.2.2.2.2.2.2.2.2.1)), (o_deep, .inl (cI, 360, .inl u.2.2.2.2.2.2.2.2.2.2.2.2.1)), (o_letters, .inl (cI, 64, .inl u.2.2.2.2.2.2.2.2.2.2.2.2.2.1)), (o_starts, .inl (cI, 64, .inl u.2.2.2.2.2.2.2.2.2.2.2.2.2.2.1)), (o_trial, .inl (cI, 361, .inl u.2.2.2.2.2.2.2.2.2.2.2.2.2.2.2))])) (cc := cX10_judged) (maxL := 7) RX10 rfl (by decide +kernel) rfl rfl [(0, .ref o), (1, .int x1), (2, .int x2)] rfl ?_
  intro p e s m args below meth c A Qm C hret
  have H229 : ∀ (k0 : Int32) (k1 : Int32) (v_bestFrames : Int32) (v_bits : Int32) (v_failed : Int32) (v_failedAt : Int32) (v_fitting : Int32) (v_frames : Int32) (v_idle : Int32) (v_margin : Int32) (v_parity : Int32) (v_stops : Int32) (v_wide : Int32) (v_bestLetters : (Nat → Int32)) (v_deep : (Nat → Int32)) (v_letters : (Nat → Int32)) (v_starts : (Nat → Int32)) (v_trial : (Nat → Int32)), wX10_judged_229 fu x1 x2 Q k0 k1 v_bestFrames v_bits v_failed v_failedAt v_fitting v_frames v_idle v_margin v_parity v_stops v_wide v_bestLetters v_deep v_letters v_starts v_trial → G p l e rmX10_judged s m args below meth c D A 7 0 0 Qm [(o, .inr (10, [.ref o_text, .int v_length, .ref o_now, .ref o_trial, .ref o_diary, .int v_acts, .int v_next, .ref o_kept, .ref o_isKept, .ref o_knownPlace, .ref o_knownLetter, .int v_known, .long v_seed, .int v_wide, .int v_bits, .int v_parity, .int v_stops, .int v_idle, .int v_frames, .int v_failed, .int v_failedAt, .int v_margin, .ref o_letters, .ref o_starts, .int v_bestFrames, .ref o_bestLetters, .int v_alike, .int v_fitting, .ref o_deep, .ref o_worth, .int v_readLevel, .int v_readMany, .ref o_readTicks, .int v_part, .int v_ten])), (o_bestLetters, .inl (cI, 64, .inl v_bestLetters)), (o_deep, .inl (cI, 360, .inl v_deep)), (o_letters, .inl (cI, 64, .inl v_letters)), (o_starts, .inl (cI, 64, .inl v_starts)), (o_trial, .inl (cI, 361, .inl v_trial))] [] 229 [.int k1, .int k0] := by
    intro k0 k1 v_bestFrames v_bits v_failed v_failedAt v_fitting v_frames v_idle v_margin v_parity v_stops v_wide v_bestLetters v_deep v_letters v_starts v_trial h
    unfold wX10_judged_229 at h
    refine g_icmp_ne C 236 dX10_judged_229 (by decide) (fun c60 => ?_) (fun c60 => ?_)
    · have h := wp_f c60 h
      refine g_iconst C (0 : Int32) dX10_judged_236 rfl ?_
      exact hret _ (v_bestFrames, v_bits, v_failed, v_failedAt, v_fitting, v_frames, v_idle, v_margin, v_parity, v_stops, v_wide, v_bestLetters, v_deep, v_letters, v_starts, v_trial) _ _ _ (Or.inl rfl) dX10_judged_237 h rfl
    have h := wp_t c60 h
    refine g_iconst C (1 : Int32) dX10_judged_232 rfl ?_
    refine g_goto C 237 dX10_judged_233 (by decide) ?_
    exact hret _ (v_bestFrames, v_bits, v_failed, v_failedAt, v_fitting, v_frames, v_idle, v_margin, v_parity, v_stops, v_wide, v_bestLetters, v_deep, v_letters, v_starts, v_trial) _ _ _ (Or.inr rfl) dX10_judged_237 h rfl
  have H204 : ∀ (k0 : Int32) (v_bestFrames : Int32) (v_bits : Int32) (v_failed : Int32) (v_failedAt : Int32) (v_fitting : Int32) (v_frames : Int32) (v_idle : Int32) (v_margin : Int32) (v_parity : Int32) (v_stops : Int32) (v_wide : Int32) (v_bestLetters : (Nat → Int32)) (v_deep : (Nat → Int32)) (v_letters : (Nat → Int32)) (v_starts : (Nat → Int32)) (v_trial : (Nat → Int32)), wX10_judged_204 fu x1 x2 Q k0 v_bestFrames v_bits v_failed v_failedAt v_fitting v_frames v_idle v_margin v_parity v_stops v_wide v_bestLetters v_deep v_letters v_starts v_trial → G p l e rmX10_judged s m args below meth c D A 7 0 0 Qm [(o, .inr (10, [.ref o_text, .int v_length, .ref o_now, .ref o_trial, .ref o_diary, .int v_acts, .int v_next, .ref o_kept, .ref o_isKept, .ref o_knownPlace, .ref o_knownLetter, .int v_known, .long v_seed, .int v_wide, .int v_bits, .int v_parity, .int v_stops, .int v_idle, .int v_frames, .int v_failed, .int v_failedAt, .int v_margin, .ref o_letters, .ref o_starts, .int v_bestFrames, .ref o_bestLetters, .int v_alike, .int v_fitting, .ref o_deep, .ref o_worth, .int v_readLevel, .int v_readMany, .ref o_readTicks, .int v_part, .int v_ten])), (o_bestLetters, .inl (cI, 64, .inl v_bestLetters)), (o_deep, .inl (cI, 360, .inl v_deep)), (o_letters, .inl (cI, 64, .inl v_letters)), (o_starts, .inl (cI, 64, .inl v_starts)), (o_trial, .inl (cI, 361, .inl v_trial))] [(2, .int x2)] 204 [.int k0] := by
    intro k0 v_bestFrames v_bits v_failed v_failedAt v_fitting v_frames v_idle v_margin v_parity v_stops v_wide v_bestLetters v_deep v_letters v_starts v_trial h
    unfold wX10_judged_204 at h
    refine g_istore C [(6, .int k0), (2, .int x2)] dX10_judged_204 (by decide) rfl ?_
    refine g_iload_n C 2 1 x2 dX10_judged_206 rfl rfl ?_
    refine g_bipush C (10 : Int32) dX10_judged_207 rfl ?_
    refine g_irem C (by decide) dX10_judged_209 ?_
    refine g_iconst C (2 : Int32) dX10_judged_210 rfl ?_
    refine g_icmp_ge C 236 dX10_judged_211 (by decide) (fun c58 => ?_) (fun c58 => ?_)
    · have h := wp_t c58 h
      refine g_iconst C (0 : Int32) dX10_judged_236 rfl ?_
      exact hret _ (v_bestFrames, v_bits, v_failed, v_failedAt, v_fitting, v_frames, v_idle, v_margin, v_parity, v_stops, v_wide, v_bestLetters, v_deep, v_letters, v_starts, v_trial) _ _ _ (Or.inl rfl) dX10_judged_237 h rfl
    have h := wp_f c58 h
    refine g_iload C 6 0 k0 dX10_judged_214 rfl ?_
    refine g_iload_n C 2 1 x2 dX10_judged_216 rfl rfl ?_
    refine g_bipush C (10 : Int32) dX10_judged_217 rfl ?_
    refine g_irem C (by decide) dX10_judged_219 ?_
    refine g_iconst C (1 : Int32) dX10_judged_220 rfl ?_
    refine g_icmp_ne C 228 dX10_judged_221 (by decide) (fun c59 => ?_) (fun c59 => ?_)
    · have h := wp_f c59 h
      refine g_iconst C (0 : Int32) dX10_judged_228 rfl ?_
      refine g_lv [] rfl ?_
      exact H229  k0 (0 : Int32) v_bestFrames v_bits v_failed v_failedAt v_fitting v_frames v_idle v_margin v_parity v_stops v_wide v_bestLetters v_deep v_letters v_starts v_trial h
    have h := wp_t c59 h
    refine g_iconst C (1 : Int32) dX10_judged_224 rfl ?_
    refine g_goto C 229 dX10_judged_225 (by decide) ?_
    refine g_lv [] rfl ?_
    exact H229  k0 (1 : Int32) v_bestFrames v_bits v_failed v_failedAt v_fitting v_frames v_idle v_margin v_parity v_stops v_wide v_bestLetters v_deep v_letters v_starts v_trial h
  have H203 : ∀ (v_bestFrames : Int32) (v_bits : Int32) (v_failed : Int32) (v_failedAt : Int32) (v_fitting : Int32) (v_frames : Int32) (v_idle : Int32) (v_margin : Int32) (v_parity : Int32) (v_stops : Int32) (v_wide : Int32) (v_bestLetters : (Nat → Int32)) (v_deep : (Nat → Int32)) (v_letters : (Nat → Int32)) (v_starts : (Nat → Int32)) (v_trial : (Nat → Int32)), wX10_judged_203 fu x1 x2 Q v_bestFrames v_bits v_failed v_failedAt v_fitting v_frames v_idle v_margin v_parity v_stops v_wide v_bestLetters v_deep v_letters v_starts v_trial → G p l e rmX10_judged s m args below meth c D A 7 0 0 Qm [(o, .inr (10, [.ref o_text, .int v_length, .ref o_now, .ref o_trial, .ref o_diary, .int v_acts, .int v_next, .ref o_kept, .ref o_isKept, .ref o_knownPlace, .ref o_knownLetter, .int v_known, .long v_seed, .int v_wide, .int v_bits, .int v_parity, .int v_stops, .int v_idle, .int v_frames, .int v_failed, .int v_failedAt, .int v_margin, .ref o_letters, .ref o_starts, .int v_bestFrames, .ref o_bestLetters, .int v_alike, .int v_fitting, .ref o_deep, .ref o_worth, .int v_readLevel, .int v_readMany, .ref o_readTicks, .int v_part, .int v_ten])), (o_bestLetters, .inl (cI, 64, .inl v_bestLetters)), (o_deep, .inl (cI, 360, .inl v_deep)), (o_letters, .inl (cI, 64, .inl v_letters)), (o_starts, .inl (cI, 64, .inl v_starts)), (o_trial, .inl (cI, 361, .inl v_trial))] [(2, .int x2)] 203 [] := by
    intro v_bestFrames v_bits v_failed v_failedAt v_fitting v_frames v_idle v_margin v_parity v_stops v_wide v_bestLetters v_deep v_letters v_starts v_trial h
    unfold wX10_judged_203 at h
    refine g_iconst C (0 : Int32) dX10_judged_203 rfl ?_
    refine g_lv [0] rfl ?_
    exact H204  (0 : Int32) v_bestFrames v_bits v_failed v_failedAt v_fitting v_frames v_idle v_margin v_parity v_stops v_wide v_bestLetters v_deep v_letters v_starts v_trial h
  unfold wp_X10_judged at h
  refine g_iload_n C 2 2 x2 dX10_judged_0 rfl rfl ?_
  refine g_bipush C (100 : Int32) dX10_judged_1 rfl ?_
  refine g_idiv C (by decide) dX10_judged_3 ?_
  refine g_topi (fun y1 ey1 => ?_)
  have h := h y1 ey1
  refine g_istore_n C [(3, .int y1), (0, .ref o), (1, .int x1), (2, .int x2)] dX10_judged_4 rfl (by decide) rfl ?_
  refine g_iload_n C 2 3 x2 dX10_judged_5 rfl rfl ?_
  refine g_bipush C (100 : Int32) dX10_judged_6 rfl ?_
  refine g_irem C (by decide) dX10_judged_8 ?_
  refine g_topi (fun y2 ey2 => ?_)
  have h := h y2 ey2
  refine g_istore C [(4, .int y2), (3, .int y1), (0, .ref o), (1, .int x1), (2, .int x2)] dX10_judged_9 (by decide) rfl ?_
  refine g_iload_n C 1 3 x1 dX10_judged_11 rfl rfl ?_
  by_cases c52 : x1 = (1 : Int32)
  · have h := wp_t c52 h
    refine g_tableIn C (1) (40) 52 (by rw [c52]; rfl) dX10_judged_12 (by decide) rfl (by decide) ?_
    refine g_iload_n C 3 1 y1 dX10_judged_52 rfl rfl ?_
    refine g_iconst C (1 : Int32) dX10_judged_53 rfl ?_
    refine g_icmp_gt C 79 dX10_judged_54 (by decide) (fun c3 => ?_) (fun c3 => ?_)
    · have h := wp_t c3 h
      refine g_iconst C (0 : Int32) dX10_judged_79 rfl ?_
      exact hret _ (v_bestFrames, v_bits, v_failed, v_failedAt, v_fitting, v_frames, v_idle, v_margin, v_parity, v_stops, v_wide, v_bestLetters, v_deep, v_letters, v_starts, v_trial) _ _ _ (Or.inl rfl) dX10_judged_80 h rfl
    have h := wp_f c3 h
    refine g_iload C 4 0 y2 dX10_judged_57 rfl ?_
    refine g_if_eq C 79 dX10_judged_59 (by decide) (fun c4 => ?_) (fun c4 => ?_)
    · have h := wp_t c4 h
      refine g_iconst C (0 : Int32) dX10_judged_79 rfl ?_
      exact hret _ (v_bestFrames, v_bits, v_failed, v_failedAt, v_fitting, v_frames, v_idle, v_margin, v_parity, v_stops, v_wide, v_bestLetters, v_deep, v_letters, v_starts, v_trial) _ _ _ (Or.inl rfl) dX10_judged_80 h rfl
    have h := wp_f c4 h
    refine g_aload_n C 0 2 o dX10_judged_62 rfl rfl ?_
    refine g_get C 10 ix_10 0 _ rfl rfl 3 (by decide) wm_129 rfl (.ref o_trial) rfl dX10_judged_63 ?_
    refine g_sipush C (360 : Int32) dX10_judged_66 rfl ?_
    refine g_iald C 5 0 cI 361 v_trial rfl rfl (vp_in_dec rfl) dX10_judged_69 ?_
    refine g_iload C 4 0 y2 dX10_judged_70 rfl ?_
    refine g_iadd C dX10_judged_72 ?_
    refine g_sipush C (360 : Int32) dX10_judged_73 rfl ?_
    refine g_icmp_le C 81 dX10_judged_76 (by decide) (fun c5 => ?_) (fun c5 => ?_)
    rotate_left
    · have h := wp_f c5 h
      refine g_iconst C (0 : Int32) dX10_judged_79 rfl ?_
      exact hret _ (v_bestFrames, v_bits, v_failed, v_failedAt, v_fitting, v_frames, v_idle, v_margin, v_parity, v_stops, v_wide, v_bestLetters, v_deep, v_letters, v_starts, v_trial) _ _ _ (Or.inl rfl) dX10_judged_80 h rfl
    have h := wp_t c5 h
    refine g_aload_n C 0 2 o dX10_judged_81 rfl rfl ?_
    refine g_get C 10 ix_10 0 _ rfl rfl 3 (by decide) wm_129 rfl (.ref o_trial) rfl dX10_judged_82 ?_
    refine g_iload_n C 3 1 y1 dX10_judged_85 rfl rfl ?_
    refine g_iload C 4 0 y2 dX10_judged_86 rfl ?_
    refine g_callSv (As := [.ref o_trial, .int y1, .int y2]) (rest := []) C (c_X10_hearOn l D cI cJ cZ cW o_trial v_trial y1 y2 fu _ h) 3 gd_X10_212 rfl rfl rfl (by decide +kernel) ⟨Nat.le_of_ble_eq_true rfl, Nat.le_of_ble_eq_true rfl⟩ ⟨Nat.le_of_ble_eq_true rfl, Nat.le_of_ble_eq_true rfl⟩ rfl rfl (Nat.le_of_ble_eq_true rfl) [5] [none, none, none, none, none, some 0] rfl rfl rfl dX10_judged_88 (fun u h => ?_)
    obtain ⟨z6, rfl⟩ : ∃ z, z = u := ⟨_, rfl⟩
    refine ⟨[(o, .inr (10, [.ref o_text, .int v_length, .ref o_now, .ref o_trial, .ref o_diary, .int v_acts, .int v_next, .ref o_kept, .ref o_isKept, .ref o_knownPlace, .ref o_knownLetter, .int v_known, .long v_seed, .int v_wide, .int v_bits, .int v_parity, .int v_stops, .int v_idle, .int v_frames, .int v_failed, .int v_failedAt, .int v_margin, .ref o_letters, .ref o_starts, .int v_bestFrames, .ref o_bestLetters, .int v_alike, .int v_fitting, .ref o_deep, .ref o_worth, .int v_readLevel, .int v_readMany, .ref o_readTicks, .int v_part, .int v_ten])), (o_bestLetters, .inl (cI, 64, .inl v_bestLetters)), (o_deep, .inl (cI, 360, .inl v_deep)), (o_letters, .inl (cI, 64, .inl v_letters)), (o_starts, .inl (cI, 64, .inl v_starts)), (o_trial, .inl (cI, 361, .inl z6))], rfl, rfl, rfl, ?_⟩
    refine g_iconst C (1 : Int32) dX10_judged_91 rfl ?_
    exact hret _ (v_bestFrames, v_bits, v_failed, v_failedAt, v_fitting, v_frames, v_idle, v_margin, v_parity, v_stops, v_wide, v_bestLetters, v_deep, v_letters, v_starts, z6) _ _ _ (Or.inr rfl) dX10_judged_92 h rfl
  have h := wp_f c52 h
  by_cases c53 : x1 = (2 : Int32)
  · have h := wp_t c53 h
    refine g_tableIn C (2) (81) 93 (by rw [c53]; rfl) dX10_judged_12 (by decide) rfl (by decide) ?_
    refine g_aload_n C 0 2 o dX10_judged_93 rfl rfl ?_
    refine g_get C 10 ix_10 0 _ rfl rfl 3 (by decide) wm_129 rfl (.ref o_trial) rfl dX10_judged_94 ?_
    refine g_iload_n C 2 4 x2 dX10_judged_97 rfl rfl ?_
    refine g_callSi0 (As := [.ref o_trial, .int x2]) (rest := []) C (c_X10_isTick l D cI cJ cZ cW o_trial v_trial x2 fu _ h) 2 gd_X10_117 rfl rfl rfl (by decide +kernel) ⟨Nat.le_of_ble_eq_true rfl, Nat.le_of_ble_eq_true rfl⟩ ⟨Nat.le_of_ble_eq_true rfl, Nat.le_of_ble_eq_true rfl⟩ rfl rfl (Nat.le_of_ble_eq_true rfl) [5] rfl rfl dX10_judged_98 (fun r7 h => ?_)
    obtain ⟨hzr7, h⟩ := h
    refine g_if_ne C 106 dX10_judged_101 (by decide) (fun c8 => ?_) (fun c8 => ?_)
    rotate_left
    · have h := wp_t c8 h
      refine g_iconst C (0 : Int32) dX10_judged_104 rfl ?_
      exact hret _ (v_bestFrames, v_bits, v_failed, v_failedAt, v_fitting, v_frames, v_idle, v_margin, v_parity, v_stops, v_wide, v_bestLetters, v_deep, v_letters, v_starts, v_trial) _ _ _ (Or.inl rfl) dX10_judged_105 h rfl
    have h := wp_f c8 h
    refine g_aload_n C 0 2 o dX10_judged_106 rfl rfl ?_
    refine g_get C 10 ix_10 0 _ rfl rfl 3 (by decide) wm_129 rfl (.ref o_trial) rfl dX10_judged_107 ?_
    refine g_iload_n C 2 4 x2 dX10_judged_110 rfl rfl ?_
    refine g_iconst C (1 : Int32) dX10_judged_111 rfl ?_
    refine g_aload_n C 0 2 o dX10_judged_112 rfl rfl ?_
    refine g_get C 10 ix_10 0 _ rfl rfl 3 (by decide) wm_129 rfl (.ref o_trial) rfl dX10_judged_113 ?_
    refine g_iload_n C 2 4 x2 dX10_judged_116 rfl rfl ?_
    obtain ⟨hi9, h⟩ := h
    refine g_iald C 5 0 cI 361 v_trial rfl rfl hi9 dX10_judged_117 ?_
    refine g_isub C dX10_judged_118 ?_
    obtain ⟨hi10, h⟩ := h
    refine g_iast C 5 0 cI 361 v_trial rfl rfl hi10 dX10_judged_119 [(o, .inr (10, [.ref o_text, .int v_length, .ref o_now, .ref o_trial, .ref o_diary, .int v_acts, .int v_next, .ref o_kept, .ref o_isKept, .ref o_knownPlace, .ref o_knownLetter, .int v_known, .long v_seed, .int v_wide, .int v_bits, .int v_parity, .int v_stops, .int v_idle, .int v_frames, .int v_failed, .int v_failedAt, .int v_margin, .ref o_letters, .ref o_starts, .int v_bestFrames, .ref o_bestLetters, .int v_alike, .int v_fitting, .ref o_deep, .ref o_worth, .int v_readLevel, .int v_readMany, .ref o_readTicks, .int v_part, .int v_ten])), (o_bestLetters, .inl (cI, 64, .inl v_bestLetters)), (o_deep, .inl (cI, 360, .inl v_deep)), (o_letters, .inl (cI, 64, .inl v_letters)), (o_starts, .inl (cI, 64, .inl v_starts)), (o_trial, .inl (cI, 361, .inl (upd v_trial (ix x2) ((1 : Int32) - (v_trial (ix x2))))))] rfl ?_
    refine g_iconst C (1 : Int32) dX10_judged_120 rfl ?_
    exact hret _ (v_bestFrames, v_bits, v_failed, v_failedAt, v_fitting, v_frames, v_idle, v_margin, v_parity, v_stops, v_wide, v_bestLetters, v_deep, v_letters, v_starts, (upd v_trial (ix x2) ((1 : Int32) - (v_trial (ix x2))))) _ _ _ (Or.inr rfl) dX10_judged_121 h rfl
  have h := wp_f c53 h
  by_cases c54 : x1 = (3 : Int32)
  · have h := wp_t c54 h
    refine g_tableIn C (3) (110) 122 (by rw [c54]; rfl) dX10_judged_12 (by decide) rfl (by decide) ?_
    refine g_aload_n C 0 2 o dX10_judged_122 rfl rfl ?_
    refine g_get C 10 ix_10 0 _ rfl rfl 3 (by decide) wm_129 rfl (.ref o_trial) rfl dX10_judged_123 ?_
    refine g_callSi0 (As := [.ref o_trial]) (rest := []) C (c_X10_edges l D cI cJ cZ cW o_trial v_trial fu _ h) 1 gd_X10_172 rfl rfl rfl (by decide +kernel) ⟨Nat.le_of_ble_eq_true rfl, Nat.le_of_ble_eq_true rfl⟩ ⟨Nat.le_of_ble_eq_true rfl, Nat.le_of_ble_eq_true rfl⟩ rfl rfl (Nat.le_of_ble_eq_true rfl) [5] rfl rfl dX10_judged_126 (fun r11 h => ?_)
    refine g_iload_n C 2 4 x2 dX10_judged_129 rfl rfl ?_
    refine g_icmp_ne C 137 dX10_judged_130 (by decide) (fun c12 => ?_) (fun c12 => ?_)
    · have h := wp_f c12 h
      refine g_iconst C (0 : Int32) dX10_judged_137 rfl ?_
      exact hret _ (v_bestFrames, v_bits, v_failed, v_failedAt, v_fitting, v_frames, v_idle, v_margin, v_parity, v_stops, v_wide, v_bestLetters, v_deep, v_letters, v_starts, v_trial) _ _ _ (Or.inl rfl) dX10_judged_138 h rfl
    have h := wp_t c12 h
    refine g_iconst C (1 : Int32) dX10_judged_133 rfl ?_
    refine g_goto C 138 dX10_judged_134 (by decide) ?_
    exact hret _ (v_bestFrames, v_bits, v_failed, v_failedAt, v_fitting, v_frames, v_idle, v_margin, v_parity, v_stops, v_wide, v_bestLetters, v_deep, v_letters, v_starts, v_trial) _ _ _ (Or.inr rfl) dX10_judged_138 h rfl
  have h := wp_f c54 h
  by_cases c55 : x1 = (4 : Int32)
  · have h := wp_t c55 h
    refine g_tableIn C (4) (127) 139 (by rw [c55]; rfl) dX10_judged_12 (by decide) rfl (by decide) ?_
    refine g_iload_n C 2 4 x2 dX10_judged_139 rfl rfl ?_
    refine g_i2l C dX10_judged_140 ?_
    refine g_lconst C (1 : Int64) dX10_judged_141 rfl ?_
    refine g_aload_n C 0 2 o dX10_judged_142 rfl rfl ?_
    refine g_get C 10 ix_10 0 _ rfl rfl 3 (by decide) wm_129 rfl (.ref o_trial) rfl dX10_judged_143 ?_
    refine g_sipush C (360 : Int32) dX10_judged_146 rfl ?_
    refine g_iald C 5 0 cI 361 v_trial rfl rfl (vp_in_dec rfl) dX10_judged_149 ?_
    refine g_i2l C dX10_judged_150 ?_
    refine g_callSi0 (As := [.long (Int32.toInt64 x2), .long (1 : Int64), .long (Int32.toInt64 (v_trial (ix (360 : Int32))))]) (rest := []) C (c_X10_in l D cI cJ cZ cW (Int32.toInt64 x2) (1 : Int64) (Int32.toInt64 (v_trial (ix (360 : Int32)))) fu _ h) 3 gd_X10_53 rfl rfl rfl (by decide +kernel) ⟨Nat.le_of_ble_eq_true rfl, Nat.le_of_ble_eq_true rfl⟩ ⟨Nat.le_of_ble_eq_true rfl, Nat.le_of_ble_eq_true rfl⟩ rfl rfl (Nat.le_of_ble_eq_true rfl) [] rfl rfl dX10_judged_151 (fun r13 h => ?_)
    obtain ⟨hzr13, h⟩ := h
    refine g_if_ne C 159 dX10_judged_154 (by decide) (fun c14 => ?_) (fun c14 => ?_)
    rotate_left
    · have h := wp_t c14 h
      refine g_iconst C (0 : Int32) dX10_judged_157 rfl ?_
      exact hret _ (v_bestFrames, v_bits, v_failed, v_failedAt, v_fitting, v_frames, v_idle, v_margin, v_parity, v_stops, v_wide, v_bestLetters, v_deep, v_letters, v_starts, v_trial) _ _ _ (Or.inl rfl) dX10_judged_158 h rfl
    have h := wp_f c14 h
    refine g_aload_n C 0 2 o dX10_judged_159 rfl rfl ?_
    refine g_get C 10 ix_10 0 _ rfl rfl 3 (by decide) wm_129 rfl (.ref o_trial) rfl dX10_judged_160 ?_
    refine g_iload_n C 2 4 x2 dX10_judged_163 rfl rfl ?_
    refine g_callSv (As := [.ref o_trial, .int x2]) (rest := []) C (c_X10_cutOn l D cI cJ cZ cW o_trial v_trial x2 fu _ h) 2 gd_X10_224 rfl rfl rfl (by decide +kernel) ⟨Nat.le_of_ble_eq_true rfl, Nat.le_of_ble_eq_true rfl⟩ ⟨Nat.le_of_ble_eq_true rfl, Nat.le_of_ble_eq_true rfl⟩ rfl rfl (Nat.le_of_ble_eq_true rfl) [5] [none, none, none, none, none, some 0] rfl rfl rfl dX10_judged_164 (fun u h => ?_)
    obtain ⟨z15, rfl⟩ : ∃ z, z = u := ⟨_, rfl⟩
    refine ⟨[(o, .inr (10, [.ref o_text, .int v_length, .ref o_now, .ref o_trial, .ref o_diary, .int v_acts, .int v_next, .ref o_kept, .ref o_isKept, .ref o_knownPlace, .ref o_knownLetter, .int v_known, .long v_seed, .int v_wide, .int v_bits, .int v_parity, .int v_stops, .int v_idle, .int v_frames, .int v_failed, .int v_failedAt, .int v_margin, .ref o_letters, .ref o_starts, .int v_bestFrames, .ref o_bestLetters, .int v_alike, .int v_fitting, .ref o_deep, .ref o_worth, .int v_readLevel, .int v_readMany, .ref o_readTicks, .int v_part, .int v_ten])), (o_bestLetters, .inl (cI, 64, .inl v_bestLetters)), (o_deep, .inl (cI, 360, .inl v_deep)), (o_letters, .inl (cI, 64, .inl v_letters)), (o_starts, .inl (cI, 64, .inl v_starts)), (o_trial, .inl (cI, 361, .inl z15))], rfl, rfl, rfl, ?_⟩
    refine g_iconst C (1 : Int32) dX10_judged_167 rfl ?_
    exact hret _ (v_bestFrames, v_bits, v_failed, v_failedAt, v_fitting, v_frames, v_idle, v_margin, v_parity, v_stops, v_wide, v_bestLetters, v_deep, v_letters, v_starts, z15) _ _ _ (Or.inr rfl) dX10_judged_168 h rfl
  have h := wp_f c55 h
  by_cases c56 : x1 = (5 : Int32)
  · have h := wp_t c56 h
    refine g_tableIn C (5) (157) 169 (by rw [c56]; rfl) dX10_judged_12 (by decide) rfl (by decide) ?_
    refine g_aload_n C 0 2 o dX10_judged_169 rfl rfl ?_
    refine g_aload_n C 0 2 o dX10_judged_170 rfl rfl ?_
    refine g_get C 10 ix_10 0 _ rfl rfl 3 (by decide) wm_129 rfl (.ref o_trial) rfl dX10_judged_171 ?_
    refine g_callVi (As := [.ref o_trial]) (rest := []) C (c_X10_best l D cI cJ cZ cW o o_text o_now o_trial o_diary o_kept o_isKept o_knownPlace o_knownLetter o_letters o_starts o_bestLetters o_deep o_worth o_readTicks o_trial v_length v_acts v_next v_known v_seed v_wide v_bits v_parity v_stops v_idle v_frames v_failed v_failedAt v_margin v_bestFrames v_alike v_fitting v_readLevel v_readMany v_part v_ten v_bestLetters v_deep v_letters v_starts v_trial fu _ h) 1 gd_X10_165 rfl rfl rfl (by decide +kernel) ⟨Nat.le_of_ble_eq_true rfl, Nat.le_of_ble_eq_true rfl⟩ ⟨Nat.le_of_ble_eq_true rfl, Nat.le_of_ble_eq_true rfl⟩ 10 0 rfl rfl rfl rfl (Nat.le_of_ble_eq_true rfl) [0, 1, 2, 3, 4, 5] [some 0, some 1, some 2, some 3, some 4, some 5] rfl rfl rfl dX10_judged_174 (fun r31 u h => ?_)
    obtain ⟨z16, z17, z18, z19, z20, z21, z22, z23, z24, z25, z26, z27, z28, z29, z30⟩ := u
    refine ⟨[(o, .inr (10, [.ref o_text, .int v_length, .ref o_now, .ref o_trial, .ref o_diary, .int v_acts, .int v_next, .ref o_kept, .ref o_isKept, .ref o_knownPlace, .ref o_knownLetter, .int v_known, .long v_seed, .int z26, .int z17, .int z24, .int z25, .int z22, .int z21, .int z18, .int z19, .int z23, .ref o_letters, .ref o_starts, .int z16, .ref o_bestLetters, .int v_alike, .int z20, .ref o_deep, .ref o_worth, .int v_readLevel, .int v_readMany, .ref o_readTicks, .int v_part, .int v_ten])), (o_bestLetters, .inl (cI, 64, .inl z27)), (o_deep, .inl (cI, 360, .inl z28)), (o_letters, .inl (cI, 64, .inl z29)), (o_starts, .inl (cI, 64, .inl z30)), (o_trial, .inl (cI, 361, .inl v_trial))], rfl, rfl, rfl, ?_⟩
    refine g_istore C [(5, .int r31), (4, .int y2), (3, .int y1), (0, .ref o), (1, .int x1), (2, .int x2)] dX10_judged_177 (by decide) rfl ?_
    refine g_iload C 5 0 r31 dX10_judged_179 rfl ?_
    refine g_bipush C (-9 : Int32) dX10_judged_181 rfl ?_
    refine g_icmp_eq C 203 dX10_judged_183 (by decide) (fun c32 => ?_) (fun c32 => ?_)
    · have h := wp_t c32 h
      refine g_lv [5] rfl ?_
      exact H203  z16 z17 z18 z19 z20 z21 z22 z23 z24 z25 z26 z27 z28 z29 z30 v_trial h
    have h := wp_f c32 h
    refine g_iload C 5 0 r31 dX10_judged_186 rfl ?_
    refine g_sipush C (10000 : Int32) dX10_judged_188 rfl ?_
    refine g_idiv C (by decide) dX10_judged_191 ?_
    refine g_iload_n C 2 5 x2 dX10_judged_192 rfl rfl ?_
    refine g_bipush C (10 : Int32) dX10_judged_193 rfl ?_
    refine g_idiv C (by decide) dX10_judged_195 ?_
    refine g_icmp_ne C 203 dX10_judged_196 (by decide) (fun c33 => ?_) (fun c33 => ?_)
    · have h := wp_f c33 h
      refine g_lv [5] rfl ?_
      exact H203  z16 z17 z18 z19 z20 z21 z22 z23 z24 z25 z26 z27 z28 z29 z30 v_trial h
    have h := wp_t c33 h
    refine g_iconst C (1 : Int32) dX10_judged_199 rfl ?_
    refine g_goto C 204 dX10_judged_200 (by decide) ?_
    refine g_lv [5] rfl ?_
    exact H204  (1 : Int32) z16 z17 z18 z19 z20 z21 z22 z23 z24 z25 z26 z27 z28 z29 z30 v_trial h
  have h := wp_f c56 h
  by_cases c57 : x1 = (6 : Int32)
  · have h := wp_t c57 h
    refine g_tableIn C (6) (226) 238 (by rw [c57]; rfl) dX10_judged_12 (by decide) rfl (by decide) ?_
    refine g_aload_n C 0 2 o dX10_judged_238 rfl rfl ?_
    refine g_aload_n C 0 2 o dX10_judged_239 rfl rfl ?_
    refine g_get C 10 ix_10 0 _ rfl rfl 3 (by decide) wm_129 rfl (.ref o_trial) rfl dX10_judged_240 ?_
    refine g_callVi (As := [.ref o_trial]) (rest := []) C (c_X10_best l D cI cJ cZ cW o o_text o_now o_trial o_diary o_kept o_isKept o_knownPlace o_knownLetter o_letters o_starts o_bestLetters o_deep o_worth o_readTicks o_trial v_length v_acts v_next v_known v_seed v_wide v_bits v_parity v_stops v_idle v_frames v_failed v_failedAt v_margin v_bestFrames v_alike v_fitting v_readLevel v_readMany v_part v_ten v_bestLetters v_deep v_letters v_starts v_trial fu _ h) 1 gd_X10_165 rfl rfl rfl (by decide +kernel) ⟨Nat.le_of_ble_eq_true rfl, Nat.le_of_ble_eq_true rfl⟩ ⟨Nat.le_of_ble_eq_true rfl, Nat.le_of_ble_eq_true rfl⟩ 10 0 rfl rfl rfl rfl (Nat.le_of_ble_eq_true rfl) [0, 1, 2, 3, 4, 5] [some 0, some 1, some 2, some 3, some 4, some 5] rfl rfl rfl dX10_judged_243 (fun r49 u h => ?_)
    obtain ⟨z34, z35, z36, z37, z38, z39, z40, z41, z42, z43, z44, z45, z46, z47, z48⟩ := u
    refine ⟨[(o, .inr (10, [.ref o_text, .int v_length, .ref o_now, .ref o_trial, .ref o_diary, .int v_acts, .int v_next, .ref o_kept, .ref o_isKept, .ref o_knownPlace, .ref o_knownLetter, .int v_known, .long v_seed, .int z44, .int z35, .int z42, .int z43, .int z40, .int z39, .int z36, .int z37, .int z41, .ref o_letters, .ref o_starts, .int z34, .ref o_bestLetters, .int v_alike, .int z38, .ref o_deep, .ref o_worth, .int v_readLevel, .int v_readMany, .ref o_readTicks, .int v_part, .int v_ten])), (o_bestLetters, .inl (cI, 64, .inl z45)), (o_deep, .inl (cI, 360, .inl z46)), (o_letters, .inl (cI, 64, .inl z47)), (o_starts, .inl (cI, 64, .inl z48)), (o_trial, .inl (cI, 361, .inl v_trial))], rfl, rfl, rfl, ?_⟩
    refine g_bipush C (-9 : Int32) dX10_judged_246 rfl ?_
    refine g_icmp_eq C 265 dX10_judged_248 (by decide) (fun c50 => ?_) (fun c50 => ?_)
    · have h := wp_t c50 h
      refine g_iconst C (0 : Int32) dX10_judged_265 rfl ?_
      exact hret _ (z34, z35, z36, z37, z38, z39, z40, z41, z42, z43, z44, z45, z46, z47, z48, v_trial) _ _ _ (Or.inl rfl) dX10_judged_266 h rfl
    have h := wp_f c50 h
    refine g_aload_n C 0 2 o dX10_judged_251 rfl rfl ?_
    refine g_get C 10 ix_10 0 _ rfl rfl 25 (by decide) wm_137 rfl (.ref o_bestLetters) rfl dX10_judged_252 ?_
    refine g_iconst C (0 : Int32) dX10_judged_255 rfl ?_
    refine g_iald C 1 0 cI 64 z45 rfl rfl (vp_in_dec rfl) dX10_judged_256 ?_
    refine g_iload_n C 2 4 x2 dX10_judged_257 rfl rfl ?_
    refine g_icmp_ne C 265 dX10_judged_258 (by decide) (fun c51 => ?_) (fun c51 => ?_)
    · have h := wp_f c51 h
      refine g_iconst C (0 : Int32) dX10_judged_265 rfl ?_
      exact hret _ (z34, z35, z36, z37, z38, z39, z40, z41, z42, z43, z44, z45, z46, z47, z48, v_trial) _ _ _ (Or.inl rfl) dX10_judged_266 h rfl
    have h := wp_t c51 h
    refine g_iconst C (1 : Int32) dX10_judged_261 rfl ?_
    refine g_goto C 266 dX10_judged_262 (by decide) ?_
    exact hret _ (z34, z35, z36, z37, z38, z39, z40, z41, z42, z43, z44, z45, z46, z47, z48, v_trial) _ _ _ (Or.inr rfl) dX10_judged_266 h rfl
  have h := wp_f c57 h
  refine g_tableOut C 267 dX10_judged_12 (sw_out (1) (6) (by decide) (fun v h1 h2 => ?_)) (by decide) ?_
  · rcases (show v = 1 ∨ v = 2 ∨ v = 3 ∨ v = 4 ∨ v = 5 ∨ v = 6 by omega) with rfl | rfl | rfl | rfl | rfl | rfl
    · exact fun hq => c52 (Int32.toInt_inj.mp (hq.trans rfl))
    · exact fun hq => c53 (Int32.toInt_inj.mp (hq.trans rfl))
    · exact fun hq => c54 (Int32.toInt_inj.mp (hq.trans rfl))
    · exact fun hq => c55 (Int32.toInt_inj.mp (hq.trans rfl))
    · exact fun hq => c56 (Int32.toInt_inj.mp (hq.trans rfl))
    · exact fun hq => c57 (Int32.toInt_inj.mp (hq.trans rfl))
  refine g_iconst C (0 : Int32) dX10_judged_267 rfl ?_
  exact hret _ (v_bestFrames, v_bits, v_failed, v_failedAt, v_fitting, v_frames, v_idle, v_margin, v_parity, v_stops, v_wide, v_bestLetters, v_deep, v_letters, v_starts, v_trial) _ _ _ (Or.inl rfl) dX10_judged_268 h rfl
abbrev rmX10_tenThousands : Room := { frames := 0, cells := 0, slots := 0, locals := 0 }
def wX10_tenThousands_4 (fu : Nat) (x0 : Int32) (Q : Int64 → Prop) : Nat → Int64 → Int32 → Prop
  | 0, _, _ => False
  | n0 + 1, x1, x3 => (if x0 ≤ x3 then Q x1 else (∀ y2 : Int64, y2 = (x1 * (10000 : Int64)) → (wX10_tenThousands_4 fu x0 Q n0) y2 (x3 + (1 : Int32))))
def wp_X10_tenThousands (fu : Nat) (x0 : Int32) (Q : Int64 → Prop) : Prop := wX10_tenThousands_4 fu x0 Q fu (1 : Int64) (0 : Int32)
set_option maxHeartbeats 4000000 in
set_option maxRecDepth 100000 in
theorem c_X10_tenThousands (l : Launch) (D : va_G) (cI cJ cZ cW : ClassId) (x0 : Int32) (fu : Nat) (Q : Int64 → Prop) (h : wp_X10_tenThousands fu x0 Q) : CtL l yX10_tenThousands wkX10_tenThousands rmX10_tenThousands D (tys4 cI cJ cZ cW) [.int x0] [] (fun (r : Int64) (u : Unit) => Q r ) (fun (_ : Unit) => []) := by
  refine CtL.of (S := Unit) (y := yX10_tenThousands) (Tc := wkX10_tenThousands) (rm := rmX10_tenThousands) (D := D) (tys := tys4 cI cJ cZ cW) (av := [.int x0]) (wc := []) (post := (fun (r : Int64) (u : Unit) => Q r )) (w1 := (fun (_ : Unit) => [])) (cc := cX10_tenThousands) (maxL := 4) RX10 rfl (by decide +kernel) rfl rfl [(0, .int x0)] rfl ?_
  intro p e s m args below meth c A Qm C hret
  have H4 : ∀ (n4 : Nat) (x1 : Int64) (x3 : Int32), wX10_tenThousands_4 fu x0 Q n4 x1 x3 → G p l e rmX10_tenThousands s m args below meth c D A 4 0 0 Qm [] [(0, .int x0), (1, .long x1), (3, .int x3)] 4 [] := by
    intro n4
    induction n4 with
    | zero => intro x1 x3 h; exact False.elim h
    | succ n4 ih4 =>
      intro x1 x3 h
      unfold wX10_tenThousands_4 at h
      refine g_iload_n C 3 2 x3 dX10_tenThousands_4 rfl rfl ?_
      refine g_iload_n C 0 0 x0 dX10_tenThousands_5 rfl rfl ?_
      refine g_icmp_ge C 21 dX10_tenThousands_6 (by decide) (fun c1 => ?_) (fun c1 => ?_)
      · have h := wp_t c1 h
        refine g_lload_n C 1 1 x1 dX10_tenThousands_21 rfl rfl ?_
        exact hret _ () _ _ _ dX10_tenThousands_22 h rfl
      have h := wp_f c1 h
      refine g_lload_n C 1 1 x1 dX10_tenThousands_9 rfl rfl ?_
      refine g_ldc2 C (10000 : Int64) wm_691 dX10_tenThousands_10 ?_
      refine g_lmul C dX10_tenThousands_13 ?_
      refine g_topl (fun y2 ey2 => ?_)
      have h := h y2 ey2
      refine g_lstore_n C [(1, .long y2), (0, .int x0), (3, .int x3)] dX10_tenThousands_14 rfl (by decide) rfl ?_
      refine g_iinc C 2 x3 (x3 + (1 : Int32)) [(3, .int (x3 + (1 : Int32))), (1, .long y2), (0, .int x0)] dX10_tenThousands_15 rfl rfl (by decide) rfl ?_
      refine g_goto C 4 dX10_tenThousands_18 (by decide) ?_
      refine g_lv [2, 1, 0] rfl ?_
      exact ih4  y2 (x3 + (1 : Int32)) h
  unfold wp_X10_tenThousands at h
  refine g_lconst C (1 : Int64) dX10_tenThousands_0 rfl ?_
  refine g_lstore_n C [(1, .long (1 : Int64)), (0, .int x0)] dX10_tenThousands_1 rfl (by decide) rfl ?_
  refine g_iconst C (0 : Int32) dX10_tenThousands_2 rfl ?_
  refine g_istore_n C [(3, .int (0 : Int32)), (1, .long (1 : Int64)), (0, .int x0)] dX10_tenThousands_3 rfl (by decide) rfl ?_
  refine g_lv [2, 1, 0] rfl ?_
  exact H4 fu  (1 : Int64) (0 : Int32) h
abbrev rmX10_judge : Room := { frames := 6, cells := 0, slots := 0, locals := 149 }
def wX10_judge_43 (fu : Nat) (v_now : (Nat → Int32)) (x1 : Int32) (x2 : Int64) (Q : Int32 → Int32 → Int32 → Int32 → Int32 → Int32 → Int32 → Int32 → Int32 → Int32 → Int32 → Int32 → (Nat → Int32) → (Nat → Int32) → (Nat → Int32) → (Nat → Int32) → (Nat → Int32) → Prop) : Nat → Int32 → Int32 → Int32 → Int32 → Int32 → Int32 → Int32 → Int32 → Int32 → Int32 → Int32 → Int32 → (Nat → Int32) → (Nat → Int32) → (Nat → Int32) → (Nat → Int32) → (Nat → Int32) → Prop
  | 0, _, _, _, _, _, _, _, _, _, _, _, _, _, _, _, _, _ => False
  | n0 + 1, x4, v_bestFrames, v_bits, v_failed, v_failedAt, v_fitting, v_frames, v_idle, v_margin, v_parity, v_stops, v_wide, v_bestLetters, v_deep, v_letters, v_starts, v_trial => (if x1 ≤ x4 then Q (-9 : Int32) v_bestFrames v_bits v_failed v_failedAt v_fitting v_frames v_idle v_margin v_parity v_stops v_wide v_bestLetters v_deep v_letters v_starts v_trial else wp_X10_tenThousands fu ((x1 - (1 : Int32)) - x4) (fun (r8 : Int64) => (¬ r8 = 0 ∧ (∀ y10 : Int32, y10 = (Int64.toInt32 (lrm (x2 / r8) (10000 : Int64))) → wp_X10_judged fu (y10 / (1000 : Int32)) (irm y10 (1000 : Int32)) v_bestFrames v_bits v_failed v_failedAt v_fitting v_frames v_idle v_margin v_parity v_stops v_wide v_bestLetters v_deep v_letters v_starts v_trial (fun (r27 : Int32) (z11 : Int32) (z12 : Int32) (z13 : Int32) (z14 : Int32) (z15 : Int32) (z16 : Int32) (z17 : Int32) (z18 : Int32) (z19 : Int32) (z20 : Int32) (z21 : Int32) (z22 : (Nat → Int32)) (z23 : (Nat → Int32)) (z24 : (Nat → Int32)) (z25 : (Nat → Int32)) (z26 : (Nat → Int32)) => (if r27 = 0 then Q x4 z11 z12 z13 z14 z15 z16 z17 z18 z19 z20 z21 z22 z23 z24 z25 z26 else (wX10_judge_43 fu v_now x1 x2 Q n0) (x4 + (1 : Int32)) z11 z12 z13 z14 z15 z16 z17 z18 z19 z20 z21 z22 z23 z24 z25 z26))))))
def wp_X10_judge (fu : Nat) (v_now : (Nat → Int32)) (x1 : Int32) (x2 : Int64) (v_bestFrames : Int32) (v_bits : Int32) (v_failed : Int32) (v_failedAt : Int32) (v_fitting : Int32) (v_frames : Int32) (v_idle : Int32) (v_margin : Int32) (v_parity : Int32) (v_stops : Int32) (v_wide : Int32) (v_bestLetters : (Nat → Int32)) (v_deep : (Nat → Int32)) (v_letters : (Nat → Int32)) (v_starts : (Nat → Int32)) (v_trial : (Nat → Int32)) (Q : Int32 → Int32 → Int32 → Int32 → Int32 → Int32 → Int32 → Int32 → Int32 → Int32 → Int32 → Int32 → (Nat → Int32) → (Nat → Int32) → (Nat → Int32) → (Nat → Int32) → (Nat → Int32) → Prop) : Prop := wp_X10_in fu (Int32.toInt64 x1) (1 : Int64) (3 : Int64) (fun (r1 : Int32) => (if r1 = 0 then Q (-2 : Int32) v_bestFrames v_bits v_failed v_failedAt v_fitting v_frames v_idle v_margin v_parity v_stops v_wide v_bestLetters v_deep v_letters v_starts v_trial else wp_X10_tenThousands fu x1 (fun (r3 : Int64) => wp_X10_in fu x2 (0 : Int64) (r3 - (1 : Int64)) (fun (r4 : Int32) => (if r4 = 0 then Q (-2 : Int32) v_bestFrames v_bits v_failed v_failedAt v_fitting v_frames v_idle v_margin v_parity v_stops v_wide v_bestLetters v_deep v_letters v_starts v_trial else wp_X10_copy fu v_now v_trial (fun (z6 : (Nat → Int32)) => wX10_judge_43 fu v_now x1 x2 Q fu (0 : Int32) v_bestFrames v_bits v_failed v_failedAt v_fitting v_frames v_idle v_margin v_parity v_stops v_wide v_bestLetters v_deep v_letters v_starts z6))))))
set_option maxHeartbeats 4000000 in
set_option maxRecDepth 100000 in
theorem c_X10_judge (l : Launch) (D : va_G) (cI cJ cZ cW : ClassId) (o o_text o_now o_trial o_diary o_kept o_isKept o_knownPlace o_knownLetter o_letters o_starts o_bestLetters o_deep o_worth o_readTicks : Nat) (v_length : Int32) (v_acts : Int32) (v_next : Int32) (v_known : Int32) (v_seed : Int64) (v_wide : Int32) (v_bits : Int32) (v_parity : Int32) (v_stops : Int32) (v_idle : Int32) (v_frames : Int32) (v_failed : Int32) (v_failedAt : Int32) (v_margin : Int32) (v_bestFrames : Int32) (v_alike : Int32) (v_fitting : Int32) (v_readLevel : Int32) (v_readMany : Int32) (v_part : Int32) (v_ten : Int32) (v_bestLetters : (Nat → Int32)) (v_deep : (Nat → Int32)) (v_letters : (Nat → Int32)) (v_now : (Nat → Int32)) (v_starts : (Nat → Int32)) (v_trial : (Nat → Int32)) (x1 : Int32) (x2 : Int64) (fu : Nat) (Q : Int32 → Int32 → Int32 → Int32 → Int32 → Int32 → Int32 → Int32 → Int32 → Int32 → Int32 → Int32 → (Nat → Int32) → (Nat → Int32) → (Nat → Int32) → (Nat → Int32) → (Nat → Int32) → Prop) (h : wp_X10_judge fu v_now x1 x2 v_bestFrames v_bits v_failed v_failedAt v_fitting v_frames v_idle v_margin v_parity v_stops v_wide v_bestLetters v_deep v_letters v_starts v_trial Q) : CtI l yX10_judge wkX10_judge rmX10_judge D (tys4 cI cJ cZ cW) [.ref o, .int x1, .long x2] [(o, .inr (10, [.ref o_text, .int v_length, .ref o_now, .ref o_trial, .ref o_diary, .int v_acts, .int v_next, .ref o_kept, .ref o_isKept, .ref o_knownPlace, .ref o_knownLetter, .int v_known, .long v_seed, .int v_wide, .int v_bits, .int v_parity, .int v_stops, .int v_idle, .int v_frames, .int v_failed, .int v_failedAt, .int v_margin, .ref o_letters, .ref o_starts, .int v_bestFrames, .ref o_bestLetters, .int v_alike, .int v_fitting, .ref o_deep, .ref o_worth, .int v_readLevel, .int v_readMany, .ref o_readTicks, .int v_part, .int v_ten])), (o_bestLetters, .inl (cI, 64, .inl v_bestLetters)), (o_deep, .inl (cI, 360, .inl v_deep)), (o_letters, .inl (cI, 64, .inl v_letters)), (o_now, .inl (cI, 361, .inl v_now)), (o_starts, .inl (cI, 64, .inl v_starts)), (o_trial, .inl (cI, 361, .inl v_trial))] (fun (r : Int32) (u : Int32 × Int32 × Int32 × Int32 × Int32 × Int32 × Int32 × Int32 × Int32 × Int32 × Int32 × (Nat → Int32) × (Nat → Int32) × (Nat → Int32) × (Nat → Int32) × (Nat → Int32)) => Q r u.1 u.2.1 u.2.2.1 u.2.2.2.1 u.2.2.2.2.1 u.2.2.2.2.2.1 u.2.2.2.2.2.2.1 u.2.2.2.2.2.2.2.1 u.2.2.2.2.2.2.2.2.1 u.2.2.2.2.2.2.2.2.2.1 u.2.2.2.2.2.2.2.2.2.2.1 u.2.2.2.2.2.2.2.2.2.2.2.1 u.2.2.2.2.2.2.2.2.2.2.2.2.1 u.2.2.2.2.2.2.2.2.2.2.2.2.2.1 u.2.2.2.2.2.2.2.2.2.2.2.2.2.2.1 u.2.2.2.2.2.2.2.2.2.2.2.2.2.2.2) (fun (u : Int32 × Int32 × Int32 × Int32 × Int32 × Int32 × Int32 × Int32 × Int32 × Int32 × Int32 × (Nat → Int32) × (Nat → Int32) × (Nat → Int32) × (Nat → Int32) × (Nat → Int32)) => [(o, .inr (10, [.ref o_text, .int v_length, .ref o_now, .ref o_trial, .ref o_diary, .int v_acts, .int v_next, .ref o_kept, .ref o_isKept, .ref o_knownPlace, .ref o_knownLetter, .int v_known, .long v_seed, .int u.2.2.2.2.2.2.2.2.2.2.1, .int u.2.1, .int u.2.2.2.2.2.2.2.2.1, .int u.2.2.2.2.2.2.2.2.2.1, .int u.2.2.2.2.2.2.1, .int u.2.2.2.2.2.1, .int u.2.2.1, .int u.2.2.2.1, .int u.2.2.2.2.2.2.2.1, .ref o_letters, .ref o_starts, .int u.1, .ref o_bestLetters, .int v_alike, .int u.2.2.2.2.1, .ref o_deep, .ref o_worth, .int v_readLevel, .int v_readMany, .ref o_readTicks, .int v_part, .int v_ten])), (o_bestLetters, .inl (cI, 64, .inl u.2.2.2.2.2.2.2.2.2.2.2.1)), (o_deep, .inl (cI, 360, .inl u.2.2.2.2.2.2.2.2.2.2.2.2.1)), (o_letters, .inl (cI, 64, .inl u.2.2.2.2.2.2.2.2.2.2.2.2.2.1)), (o_now, .inl (cI, 361, .inl v_now)), (o_starts, .inl (cI, 64, .inl u.2.2.2.2.2.2.2.2.2.2.2.2.2.2.1)), (o_trial, .inl (cI, 361, .inl u.2.2.2.2.2.2.2.2.2.2.2.2.2.2.2))]) := by
  refine CtI.of (S := Int32 × Int32 × Int32 × Int32 × Int32 × Int32 × Int32 × Int32 × Int32 × Int32 × Int32 × (Nat → Int32) × (Nat → Int32) × (Nat → Int32) × (Nat → Int32) × (Nat → Int32)) (y := yX10_judge) (Tc := wkX10_judge) (rm := rmX10_judge) (D := D) (tys := tys4 cI cJ cZ cW) (av := [.ref o, .int x1, .long x2]) (wc := [(o, .inr (10, [.ref o_text, .int v_length, .ref o_now, .ref o_trial, .ref o_diary, .int v_acts, .int v_next, .ref o_kept, .ref o_isKept, .ref o_knownPlace, .ref o_knownLetter, .int v_known, .long v_seed, .int v_wide, .int v_bits, .int v_parity, .int v_stops, .int v_idle, .int v_frames, .int v_failed, .int v_failedAt, .int v_margin, .ref o_letters, .ref o_starts, .int v_bestFrames, .ref o_bestLetters, .int v_alike, .int v_fitting, .ref o_deep, .ref o_worth, .int v_readLevel, .int v_readMany, .ref o_readTicks, .int v_part, .int v_ten])), (o_bestLetters, .inl (cI, 64, .inl v_bestLetters)), (o_deep, .inl (cI, 360, .inl v_deep)), (o_letters, .inl (cI, 64, .inl v_letters)), (o_now, .inl (cI, 361, .inl v_now)), (o_starts, .inl (cI, 64, .inl v_starts)), (o_trial, .inl (cI, 361, .inl v_trial))]) (post := (fun (r : Int32) (u : Int32 × Int32 × Int32 × Int32 × Int32 × Int32 × Int32 × Int32 × Int32 × Int32 × Int32 × (Nat → Int32) × (Nat → Int32) × (Nat → Int32) × (Nat → Int32) × (Nat → Int32)) => Q r u.1 u.2.1 u.2.2.1 u.2.2.2.1 u.2.2.2.2.1 u.2.2.2.2.2.1 u.2.2.2.2.2.2.1 u.2.2.2.2.2.2.2.1 u.2.2.2.2.2.2.2.2.1 u.2.2.2.2.2.2.2.2.2.1 u.2.2.2.2.2.2.2.2.2.2.1 u.2.2.2.2.2.2.2.2.2.2.2.1 u.2.2.2.2.2.2.2.2.2.2.2.2.1 u.2.2.2.2.2.2.2.2.2.2.2.2.2.1 u.2.2.2.2.2.2.2.2.2.2.2.2.2.2.1 u.2.2.2.2.2.2.2.2.2.2.2.2.2.2.2)) (w1 := (fun (u : Int32 × Int32 × Int32 × Int32 × Int32 × Int32 × Int32 × Int32 × Int32 × Int32 × Int32 × (Nat → Int32) × (Nat → Int32) × (Nat → Int32) × (Nat → Int32) × (Nat → Int32)) => [(o, .inr (10, [.ref o_text, .int v_length, .ref o_now, .ref o_trial, .ref o_diary, .int v_acts, .int v_next, .ref o_kept, .ref o_isKept, .ref o_knownPlace, .ref o_knownLetter, .int v_known, .long v_seed, .int u.2.2.2.2.2.2.2.2.2.2.1, .int u.2.1, .int u.2.2.2.2.2.2.2.2.1, .int u.2.2.2.2.2.2.2.2.2.1, .int u.2.2.2.2.2.2.1, .int u.2.2.2.2.2.1, .int u.2.2.1, .int u.2.2.2.1, .int u.2.2.2.2.2.2.2.1, .ref o_letters, .ref o_starts, .int u.1, .ref o_bestLetters, .int v_alike, .int u.2.2.2.2.1, .ref o_deep, .ref o_worth, .int v_readLevel, .int v_readMany, .ref o_readTicks, .int v_part, .int v_ten])), (o_bestLetters, .inl (cI, 64, .inl u.2.2.2.2.2.2.2.2.2.2.2.1)), (o_deep, .inl (cI, 360, .inl u.2.2.2.2.2.2.2.2.2.2.2.2.1)), (o_letters, .inl (cI, 64, .inl u.2.2.2.2.2.2.2.2.2.2.2.2.2.1)), (o_now, .inl (cI, 361, .inl v_now)), (o_starts, .inl (cI, 64, .inl u.2.2.2.2.2.2.2.2.2.2.2.2.2.2.1)), (o_trial, .inl (cI, 361, .inl u.2.2.2.2.2.2.2.2.2.2.2.2.2.2.2))])) (cc := cX10_judge) (maxL := 6) RX10 rfl (by decide +kernel) rfl rfl [(0, .ref o), (1, .int x1), (2, .long x2)] rfl ?_
  intro p e s m args below meth c A Qm C hret
  have H43 : ∀ (n43 : Nat) (x4 : Int32) (v_bestFrames : Int32) (v_bits : Int32) (v_failed : Int32) (v_failedAt : Int32) (v_fitting : Int32) (v_frames : Int32) (v_idle : Int32) (v_margin : Int32) (v_parity : Int32) (v_stops : Int32) (v_wide : Int32) (v_bestLetters : (Nat → Int32)) (v_deep : (Nat → Int32)) (v_letters : (Nat → Int32)) (v_starts : (Nat → Int32)) (v_trial : (Nat → Int32)), wX10_judge_43 fu v_now x1 x2 Q n43 x4 v_bestFrames v_bits v_failed v_failedAt v_fitting v_frames v_idle v_margin v_parity v_stops v_wide v_bestLetters v_deep v_letters v_starts v_trial → G p l e rmX10_judge s m args below meth c D A 6 0 0 Qm [(o, .inr (10, [.ref o_text, .int v_length, .ref o_now, .ref o_trial, .ref o_diary, .int v_acts, .int v_next, .ref o_kept, .ref o_isKept, .ref o_knownPlace, .ref o_knownLetter, .int v_known, .long v_seed, .int v_wide, .int v_bits, .int v_parity, .int v_stops, .int v_idle, .int v_frames, .int v_failed, .int v_failedAt, .int v_margin, .ref o_letters, .ref o_starts, .int v_bestFrames, .ref o_bestLetters, .int v_alike, .int v_fitting, .ref o_deep, .ref o_worth, .int v_readLevel, .int v_readMany, .ref o_readTicks, .int v_part, .int v_ten])), (o_bestLetters, .inl (cI, 64, .inl v_bestLetters)), (o_deep, .inl (cI, 360, .inl v_deep)), (o_letters, .inl (cI, 64, .inl v_letters)), (o_now, .inl (cI, 361, .inl v_now)), (o_starts, .inl (cI, 64, .inl v_starts)), (o_trial, .inl (cI, 361, .inl v_trial))] [(0, .ref o), (1, .int x1), (2, .long x2), (4, .int x4)] 43 [] := by
    intro n43
    induction n43 with
    | zero => intro x4 v_bestFrames v_bits v_failed v_failedAt v_fitting v_frames v_idle v_margin v_parity v_stops v_wide v_bestLetters v_deep v_letters v_starts v_trial h; exact False.elim h
    | succ n43 ih43 =>
      intro x4 v_bestFrames v_bits v_failed v_failedAt v_fitting v_frames v_idle v_margin v_parity v_stops v_wide v_bestLetters v_deep v_letters v_starts v_trial h
      unfold wX10_judge_43 at h
      refine g_iload C 4 3 x4 dX10_judge_43 rfl ?_
      refine g_iload_n C 1 1 x1 dX10_judge_45 rfl rfl ?_
      refine g_icmp_ge C 95 dX10_judge_46 (by decide) (fun c7 => ?_) (fun c7 => ?_)
      · have h := wp_t c7 h
        refine g_bipush C (-9 : Int32) dX10_judge_95 rfl ?_
        exact hret _ (v_bestFrames, v_bits, v_failed, v_failedAt, v_fitting, v_frames, v_idle, v_margin, v_parity, v_stops, v_wide, v_bestLetters, v_deep, v_letters, v_starts, v_trial) _ _ _ dX10_judge_97 h rfl
      have h := wp_f c7 h
      refine g_lload_n C 2 2 x2 dX10_judge_49 rfl rfl ?_
      refine g_iload_n C 1 1 x1 dX10_judge_50 rfl rfl ?_
      refine g_iconst C (1 : Int32) dX10_judge_51 rfl ?_
      refine g_isub C dX10_judge_52 ?_
      refine g_iload C 4 3 x4 dX10_judge_53 rfl ?_
      refine g_isub C dX10_judge_55 ?_
      refine g_callSl0 (As := [.int ((x1 - (1 : Int32)) - x4)]) (rest := [.long x2]) C (c_X10_tenThousands l D cI cJ cZ cW ((x1 - (1 : Int32)) - x4) fu _ h) 1 gd_X10_233 rfl rfl rfl (by decide +kernel) ⟨Nat.le_of_ble_eq_true rfl, Nat.le_of_ble_eq_true rfl⟩ ⟨Nat.le_of_ble_eq_true rfl, Nat.le_of_ble_eq_true rfl⟩ rfl rfl (Nat.le_of_ble_eq_true rfl) [] rfl rfl dX10_judge_56 (fun r8 h => ?_)
      obtain ⟨hn9, h⟩ := h
      refine g_ldiv C hn9 dX10_judge_59 ?_
      refine g_ldc2 C (10000 : Int64) wm_691 dX10_judge_60 ?_
      refine g_lrem C (by decide) dX10_judge_63 ?_
      refine g_l2i C dX10_judge_64 ?_
      refine g_topi (fun y10 ey10 => ?_)
      have h := h y10 ey10
      refine g_istore C [(5, .int y10), (0, .ref o), (1, .int x1), (2, .long x2), (4, .int x4)] dX10_judge_65 (by decide) rfl ?_
      refine g_aload_n C 0 1 o dX10_judge_67 rfl rfl ?_
      refine g_iload C 5 0 y10 dX10_judge_68 rfl ?_
      refine g_sipush C (1000 : Int32) dX10_judge_70 rfl ?_
      refine g_idiv C (by decide) dX10_judge_73 ?_
      refine g_iload C 5 0 y10 dX10_judge_74 rfl ?_
      refine g_sipush C (1000 : Int32) dX10_judge_76 rfl ?_
      refine g_irem C (by decide) dX10_judge_79 ?_
      refine g_callVi (As := [.int (y10 / (1000 : Int32)), .int (irm y10 (1000 : Int32))]) (rest := []) C (c_X10_judged l D cI cJ cZ cW o o_text o_now o_trial o_diary o_kept o_isKept o_knownPlace o_knownLetter o_letters o_starts o_bestLetters o_deep o_worth o_readTicks v_length v_acts v_next v_known v_seed v_wide v_bits v_parity v_stops v_idle v_frames v_failed v_failedAt v_margin v_bestFrames v_alike v_fitting v_readLevel v_readMany v_part v_ten v_bestLetters v_deep v_letters v_starts v_trial (y10 / (1000 : Int32)) (irm y10 (1000 : Int32)) fu _ h) 2 gd_X10_241 rfl rfl rfl (by decide +kernel) ⟨Nat.le_of_ble_eq_true rfl, Nat.le_of_ble_eq_true rfl⟩ ⟨Nat.le_of_ble_eq_true rfl, Nat.le_of_ble_eq_true rfl⟩ 10 0 rfl rfl rfl rfl (Nat.le_of_ble_eq_true rfl) [0, 1, 2, 3, 5, 6] [some 0, some 1, some 2, some 3, none, some 4, some 5] rfl rfl rfl dX10_judge_80 (fun r27 u h => ?_)
      obtain ⟨z11, z12, z13, z14, z15, z16, z17, z18, z19, z20, z21, z22, z23, z24, z25, z26⟩ := u
      obtain ⟨hzr27, h⟩ := h
      refine ⟨[(o, .inr (10, [.ref o_text, .int v_length, .ref o_now, .ref o_trial, .ref o_diary, .int v_acts, .int v_next, .ref o_kept, .ref o_isKept, .ref o_knownPlace, .ref o_knownLetter, .int v_known, .long v_seed, .int z21, .int z12, .int z19, .int z20, .int z17, .int z16, .int z13, .int z14, .int z18, .ref o_letters, .ref o_starts, .int z11, .ref o_bestLetters, .int v_alike, .int z15, .ref o_deep, .ref o_worth, .int v_readLevel, .int v_readMany, .ref o_readTicks, .int v_part, .int v_ten])), (o_bestLetters, .inl (cI, 64, .inl z22)), (o_deep, .inl (cI, 360, .inl z23)), (o_letters, .inl (cI, 64, .inl z24)), (o_now, .inl (cI, 361, .inl v_now)), (o_starts, .inl (cI, 64, .inl z25)), (o_trial, .inl (cI, 361, .inl z26))], rfl, rfl, rfl, ?_⟩
      refine g_if_ne C 89 dX10_judge_83 (by decide) (fun c28 => ?_) (fun c28 => ?_)
      rotate_left
      · have h := wp_t c28 h
        refine g_iload C 4 4 x4 dX10_judge_86 rfl ?_
        exact hret _ (z11, z12, z13, z14, z15, z16, z17, z18, z19, z20, z21, z22, z23, z24, z25, z26) _ _ _ dX10_judge_88 h rfl
      have h := wp_f c28 h
      refine g_iinc C 4 x4 (x4 + (1 : Int32)) [(4, .int (x4 + (1 : Int32))), (5, .int y10), (0, .ref o), (1, .int x1), (2, .long x2)] dX10_judge_89 rfl rfl (by decide) rfl ?_
      refine g_goto C 43 dX10_judge_92 (by decide) ?_
      refine g_lv [2, 3, 4, 0] rfl ?_
      exact ih43  (x4 + (1 : Int32)) z11 z12 z13 z14 z15 z16 z17 z18 z19 z20 z21 z22 z23 z24 z25 z26 h
  unfold wp_X10_judge at h
  refine g_iload_n C 1 1 x1 dX10_judge_0 rfl rfl ?_
  refine g_i2l C dX10_judge_1 ?_
  refine g_lconst C (1 : Int64) dX10_judge_2 rfl ?_
  refine g_ldc2 C (3 : Int64) wm_690 dX10_judge_3 ?_
  refine g_callSi0 (As := [.long (Int32.toInt64 x1), .long (1 : Int64), .long (3 : Int64)]) (rest := []) C (c_X10_in l D cI cJ cZ cW (Int32.toInt64 x1) (1 : Int64) (3 : Int64) fu _ h) 3 gd_X10_53 rfl rfl rfl (by decide +kernel) ⟨Nat.le_of_ble_eq_true rfl, Nat.le_of_ble_eq_true rfl⟩ ⟨Nat.le_of_ble_eq_true rfl, Nat.le_of_ble_eq_true rfl⟩ rfl rfl (Nat.le_of_ble_eq_true rfl) [] rfl rfl dX10_judge_6 (fun r1 h => ?_)
  obtain ⟨hzr1, h⟩ := h
  refine g_if_eq C 26 dX10_judge_9 (by decide) (fun c2 => ?_) (fun c2 => ?_)
  · have h := wp_t c2 h
    refine g_bipush C (-2 : Int32) dX10_judge_26 rfl ?_
    exact hret _ (v_bestFrames, v_bits, v_failed, v_failedAt, v_fitting, v_frames, v_idle, v_margin, v_parity, v_stops, v_wide, v_bestLetters, v_deep, v_letters, v_starts, v_trial) _ _ _ dX10_judge_28 h rfl
  have h := wp_f c2 h
  refine g_lload_n C 2 2 x2 dX10_judge_12 rfl rfl ?_
  refine g_lconst C (0 : Int64) dX10_judge_13 rfl ?_
  refine g_iload_n C 1 1 x1 dX10_judge_14 rfl rfl ?_
  refine g_callSl0 (As := [.int x1]) (rest := [.long (0 : Int64), .long x2]) C (c_X10_tenThousands l D cI cJ cZ cW x1 fu _ h) 1 gd_X10_233 rfl rfl rfl (by decide +kernel) ⟨Nat.le_of_ble_eq_true rfl, Nat.le_of_ble_eq_true rfl⟩ ⟨Nat.le_of_ble_eq_true rfl, Nat.le_of_ble_eq_true rfl⟩ rfl rfl (Nat.le_of_ble_eq_true rfl) [] rfl rfl dX10_judge_15 (fun r3 h => ?_)
  refine g_lconst C (1 : Int64) dX10_judge_18 rfl ?_
  refine g_lsub C dX10_judge_19 ?_
  refine g_callSi0 (As := [.long x2, .long (0 : Int64), .long (r3 - (1 : Int64))]) (rest := []) C (c_X10_in l D cI cJ cZ cW x2 (0 : Int64) (r3 - (1 : Int64)) fu _ h) 3 gd_X10_53 rfl rfl rfl (by decide +kernel) ⟨Nat.le_of_ble_eq_true rfl, Nat.le_of_ble_eq_true rfl⟩ ⟨Nat.le_of_ble_eq_true rfl, Nat.le_of_ble_eq_true rfl⟩ rfl rfl (Nat.le_of_ble_eq_true rfl) [] rfl rfl dX10_judge_20 (fun r4 h => ?_)
  obtain ⟨hzr4, h⟩ := h
  refine g_if_ne C 29 dX10_judge_23 (by decide) (fun c5 => ?_) (fun c5 => ?_)
  rotate_left
  · have h := wp_t c5 h
    refine g_bipush C (-2 : Int32) dX10_judge_26 rfl ?_
    exact hret _ (v_bestFrames, v_bits, v_failed, v_failedAt, v_fitting, v_frames, v_idle, v_margin, v_parity, v_stops, v_wide, v_bestLetters, v_deep, v_letters, v_starts, v_trial) _ _ _ dX10_judge_28 h rfl
  have h := wp_f c5 h
  refine g_aload_n C 0 0 o dX10_judge_29 rfl rfl ?_
  refine g_get C 10 ix_10 0 _ rfl rfl 2 (by decide) wm_128 rfl (.ref o_now) rfl dX10_judge_30 ?_
  refine g_aload_n C 0 0 o dX10_judge_33 rfl rfl ?_
  refine g_get C 10 ix_10 0 _ rfl rfl 3 (by decide) wm_129 rfl (.ref o_trial) rfl dX10_judge_34 ?_
  refine g_callSv (As := [.ref o_now, .ref o_trial]) (rest := []) C (c_X10_copy l D cI cJ cZ cW o_now o_trial v_now v_trial fu _ h) 2 gd_X10_237 rfl rfl rfl (by decide +kernel) ⟨Nat.le_of_ble_eq_true rfl, Nat.le_of_ble_eq_true rfl⟩ ⟨Nat.le_of_ble_eq_true rfl, Nat.le_of_ble_eq_true rfl⟩ rfl rfl (Nat.le_of_ble_eq_true rfl) [4, 6] [none, none, none, none, some 0, none, some 1] rfl rfl rfl dX10_judge_37 (fun u h => ?_)
  obtain ⟨z6, rfl⟩ : ∃ z, z = u := ⟨_, rfl⟩
  refine ⟨[(o, .inr (10, [.ref o_text, .int v_length, .ref o_now, .ref o_trial, .ref o_diary, .int v_acts, .int v_next, .ref o_kept, .ref o_isKept, .ref o_knownPlace, .ref o_knownLetter, .int v_known, .long v_seed, .int v_wide, .int v_bits, .int v_parity, .int v_stops, .int v_idle, .int v_frames, .int v_failed, .int v_failedAt, .int v_margin, .ref o_letters, .ref o_starts, .int v_bestFrames, .ref o_bestLetters, .int v_alike, .int v_fitting, .ref o_deep, .ref o_worth, .int v_readLevel, .int v_readMany, .ref o_readTicks, .int v_part, .int v_ten])), (o_bestLetters, .inl (cI, 64, .inl v_bestLetters)), (o_deep, .inl (cI, 360, .inl v_deep)), (o_letters, .inl (cI, 64, .inl v_letters)), (o_now, .inl (cI, 361, .inl v_now)), (o_starts, .inl (cI, 64, .inl v_starts)), (o_trial, .inl (cI, 361, .inl z6))], rfl, rfl, rfl, ?_⟩
  refine g_iconst C (0 : Int32) dX10_judge_40 rfl ?_
  refine g_istore C [(4, .int (0 : Int32)), (0, .ref o), (1, .int x1), (2, .long x2)] dX10_judge_41 (by decide) rfl ?_
  refine g_lv [1, 2, 3, 0] rfl ?_
  exact H43 fu  (0 : Int32) v_bestFrames v_bits v_failed v_failedAt v_fitting v_frames v_idle v_margin v_parity v_stops v_wide v_bestLetters v_deep v_letters v_starts z6 h
abbrev rmX10_know : Room := { frames := 1, cells := 0, slots := 0, locals := 25 }
def wp_X10_know (fu : Nat) (x1 : Int32) (x2 : Int32) (v_known : Int32) (v_knownLetter : (Nat → Int32)) (v_knownPlace : (Nat → Int32)) (Q : Int32 → Int32 → (Nat → Int32) → (Nat → Int32) → Prop) : Prop := wp_X10_in fu (Int32.toInt64 x1) (0 : Int64) (9 : Int64) (fun (r1 : Int32) => (if r1 = 0 then Q (-2 : Int32) v_known v_knownLetter v_knownPlace else wp_X10_in fu (Int32.toInt64 x2) (0 : Int64) (255 : Int64) (fun (r3 : Int32) => (if r3 = 0 then Q (-2 : Int32) v_known v_knownLetter v_knownPlace else (if v_known = (5 : Int32) then Q (-4 : Int32) v_known v_knownLetter v_knownPlace else (vp_in v_known 5 ∧ (vp_in v_known 5 ∧ Q (v_known + (1 : Int32)) (v_known + (1 : Int32)) (upd v_knownLetter (ix v_known) x2) (upd v_knownPlace (ix v_known) x1))))))))
set_option maxHeartbeats 4000000 in
set_option maxRecDepth 100000 in
theorem c_X10_know (l : Launch) (D : va_G) (cI cJ cZ cW : ClassId) (o o_text o_now o_trial o_diary o_kept o_isKept o_knownPlace o_knownLetter o_letters o_starts o_bestLetters o_deep o_worth o_readTicks : Nat) (v_length : Int32) (v_acts : Int32) (v_next : Int32) (v_known : Int32) (v_seed : Int64) (v_wide : Int32) (v_bits : Int32) (v_parity : Int32) (v_stops : Int32) (v_idle : Int32) (v_frames : Int32) (v_failed : Int32) (v_failedAt : Int32) (v_margin : Int32) (v_bestFrames : Int32) (v_alike : Int32) (v_fitting : Int32) (v_readLevel : Int32) (v_readMany : Int32) (v_part : Int32) (v_ten : Int32) (v_knownLetter : (Nat → Int32)) (v_knownPlace : (Nat → Int32)) (x1 : Int32) (x2 : Int32) (fu : Nat) (Q : Int32 → Int32 → (Nat → Int32) → (Nat → Int32) → Prop) (h : wp_X10_know fu x1 x2 v_known v_knownLetter v_knownPlace Q) : CtI l yX10_know wkX10_know rmX10_know D (tys4 cI cJ cZ cW) [.ref o, .int x1, .int x2] [(o, .inr (10, [.ref o_text, .int v_length, .ref o_now, .ref o_trial, .ref o_diary, .int v_acts, .int v_next, .ref o_kept, .ref o_isKept, .ref o_knownPlace, .ref o_knownLetter, .int v_known, .long v_seed, .int v_wide, .int v_bits, .int v_parity, .int v_stops, .int v_idle, .int v_frames, .int v_failed, .int v_failedAt, .int v_margin, .ref o_letters, .ref o_starts, .int v_bestFrames, .ref o_bestLetters, .int v_alike, .int v_fitting, .ref o_deep, .ref o_worth, .int v_readLevel, .int v_readMany, .ref o_readTicks, .int v_part, .int v_ten])), (o_knownLetter, .inl (cI, 5, .inl v_knownLetter)), (o_knownPlace, .inl (cI, 5, .inl v_knownPlace))] (fun (r : Int32) (u : Int32 × (Nat → Int32) × (Nat → Int32)) => Q r u.1 u.2.1 u.2.2) (fun (u : Int32 × (Nat → Int32) × (Nat → Int32)) => [(o, .inr (10, [.ref o_text, .int v_length, .ref o_now, .ref o_trial, .ref o_diary, .int v_acts, .int v_next, .ref o_kept, .ref o_isKept, .ref o_knownPlace, .ref o_knownLetter, .int u.1, .long v_seed, .int v_wide, .int v_bits, .int v_parity, .int v_stops, .int v_idle, .int v_frames, .int v_failed, .int v_failedAt, .int v_margin, .ref o_letters, .ref o_starts, .int v_bestFrames, .ref o_bestLetters, .int v_alike, .int v_fitting, .ref o_deep, .ref o_worth, .int v_readLevel, .int v_readMany, .ref o_readTicks, .int v_part, .int v_ten])), (o_knownLetter, .inl (cI, 5, .inl u.2.1)), (o_knownPlace, .inl (cI, 5, .inl u.2.2))]) := by
  refine CtI.of (S := Int32 × (Nat → Int32) × (Nat → Int32)) (y := yX10_know) (Tc := wkX10_know) (rm := rmX10_know) (D := D) (tys := tys4 cI cJ cZ cW) (av := [.ref o, .int x1, .int x2]) (wc := [(o, .inr (10, [.ref o_text, .int v_length, .ref o_now, .ref o_trial, .ref o_diary, .int v_acts, .int v_next, .ref o_kept, .ref o_isKept, .ref o_knownPlace, .ref o_knownLetter, .int v_known, .long v_seed, .int v_wide, .int v_bits, .int v_parity, .int v_stops, .int v_idle, .int v_frames, .int v_failed, .int v_failedAt, .int v_margin, .ref o_letters, .ref o_starts, .int v_bestFrames, .ref o_bestLetters, .int v_alike, .int v_fitting, .ref o_deep, .ref o_worth, .int v_readLevel, .int v_readMany, .ref o_readTicks, .int v_part, .int v_ten])), (o_knownLetter, .inl (cI, 5, .inl v_knownLetter)), (o_knownPlace, .inl (cI, 5, .inl v_knownPlace))]) (post := (fun (r : Int32) (u : Int32 × (Nat → Int32) × (Nat → Int32)) => Q r u.1 u.2.1 u.2.2)) (w1 := (fun (u : Int32 × (Nat → Int32) × (Nat → Int32)) => [(o, .inr (10, [.ref o_text, .int v_length, .ref o_now, .ref o_trial, .ref o_diary, .int v_acts, .int v_next, .ref o_kept, .ref o_isKept, .ref o_knownPlace, .ref o_knownLetter, .int u.1, .long v_seed, .int v_wide, .int v_bits, .int v_parity, .int v_stops, .int v_idle, .int v_frames, .int v_failed, .int v_failedAt, .int v_margin, .ref o_letters, .ref o_starts, .int v_bestFrames, .ref o_bestLetters, .int v_alike, .int v_fitting, .ref o_deep, .ref o_worth, .int v_readLevel, .int v_readMany, .ref o_readTicks, .int v_part, .int v_ten])), (o_knownLetter, .inl (cI, 5, .inl u.2.1)), (o_knownPlace, .inl (cI, 5, .inl u.2.2))])) (cc := cX10_know) (maxL := 3) RX10 rfl (by decide +kernel) rfl rfl [(0, .ref o), (1, .int x1), (2, .int x2)] rfl ?_
  intro p e s m args below meth c A Qm C hret
  unfold wp_X10_know at h
  refine g_iload_n C 1 1 x1 dX10_know_0 rfl rfl ?_
  refine g_i2l C dX10_know_1 ?_
  refine g_lconst C (0 : Int64) dX10_know_2 rfl ?_
  refine g_ldc2 C (9 : Int64) wm_214 dX10_know_3 ?_
  refine g_callSi0 (As := [.long (Int32.toInt64 x1), .long (0 : Int64), .long (9 : Int64)]) (rest := []) C (c_X10_in l D cI cJ cZ cW (Int32.toInt64 x1) (0 : Int64) (9 : Int64) fu _ h) 3 gd_X10_53 rfl rfl rfl (by decide +kernel) ⟨Nat.le_of_ble_eq_true rfl, Nat.le_of_ble_eq_true rfl⟩ ⟨Nat.le_of_ble_eq_true rfl, Nat.le_of_ble_eq_true rfl⟩ rfl rfl (Nat.le_of_ble_eq_true rfl) [] rfl rfl dX10_know_6 (fun r1 h => ?_)
  obtain ⟨hzr1, h⟩ := h
  refine g_if_eq C 24 dX10_know_9 (by decide) (fun c2 => ?_) (fun c2 => ?_)
  · have h := wp_t c2 h
    refine g_bipush C (-2 : Int32) dX10_know_24 rfl ?_
    exact hret _ (v_known, v_knownLetter, v_knownPlace) _ _ _ dX10_know_26 h rfl
  have h := wp_f c2 h
  refine g_iload_n C 2 2 x2 dX10_know_12 rfl rfl ?_
  refine g_i2l C dX10_know_13 ?_
  refine g_lconst C (0 : Int64) dX10_know_14 rfl ?_
  refine g_ldc2 C (255 : Int64) wm_161 dX10_know_15 ?_
  refine g_callSi0 (As := [.long (Int32.toInt64 x2), .long (0 : Int64), .long (255 : Int64)]) (rest := []) C (c_X10_in l D cI cJ cZ cW (Int32.toInt64 x2) (0 : Int64) (255 : Int64) fu _ h) 3 gd_X10_53 rfl rfl rfl (by decide +kernel) ⟨Nat.le_of_ble_eq_true rfl, Nat.le_of_ble_eq_true rfl⟩ ⟨Nat.le_of_ble_eq_true rfl, Nat.le_of_ble_eq_true rfl⟩ rfl rfl (Nat.le_of_ble_eq_true rfl) [] rfl rfl dX10_know_18 (fun r3 h => ?_)
  obtain ⟨hzr3, h⟩ := h
  refine g_if_ne C 27 dX10_know_21 (by decide) (fun c4 => ?_) (fun c4 => ?_)
  rotate_left
  · have h := wp_t c4 h
    refine g_bipush C (-2 : Int32) dX10_know_24 rfl ?_
    exact hret _ (v_known, v_knownLetter, v_knownPlace) _ _ _ dX10_know_26 h rfl
  have h := wp_f c4 h
  refine g_aload_n C 0 0 o dX10_know_27 rfl rfl ?_
  refine g_get C 10 ix_10 0 _ rfl rfl 11 (by decide) wm_381 rfl (.int v_known) rfl dX10_know_28 ?_
  refine g_iconst C (5 : Int32) dX10_know_31 rfl ?_
  refine g_icmp_ne C 38 dX10_know_32 (by decide) (fun c5 => ?_) (fun c5 => ?_)
  rotate_left
  · have h := wp_t c5 h
    refine g_bipush C (-4 : Int32) dX10_know_35 rfl ?_
    exact hret _ (v_known, v_knownLetter, v_knownPlace) _ _ _ dX10_know_37 h rfl
  have h := wp_f c5 h
  refine g_aload_n C 0 0 o dX10_know_38 rfl rfl ?_
  refine g_get C 10 ix_10 0 _ rfl rfl 9 (by decide) wm_133 rfl (.ref o_knownPlace) rfl dX10_know_39 ?_
  refine g_aload_n C 0 0 o dX10_know_42 rfl rfl ?_
  refine g_get C 10 ix_10 0 _ rfl rfl 11 (by decide) wm_381 rfl (.int v_known) rfl dX10_know_43 ?_
  refine g_iload_n C 1 1 x1 dX10_know_46 rfl rfl ?_
  obtain ⟨hi6, h⟩ := h
  refine g_iast C 2 0 cI 5 v_knownPlace rfl rfl hi6 dX10_know_47 [(o, .inr (10, [.ref o_text, .int v_length, .ref o_now, .ref o_trial, .ref o_diary, .int v_acts, .int v_next, .ref o_kept, .ref o_isKept, .ref o_knownPlace, .ref o_knownLetter, .int v_known, .long v_seed, .int v_wide, .int v_bits, .int v_parity, .int v_stops, .int v_idle, .int v_frames, .int v_failed, .int v_failedAt, .int v_margin, .ref o_letters, .ref o_starts, .int v_bestFrames, .ref o_bestLetters, .int v_alike, .int v_fitting, .ref o_deep, .ref o_worth, .int v_readLevel, .int v_readMany, .ref o_readTicks, .int v_part, .int v_ten])), (o_knownLetter, .inl (cI, 5, .inl v_knownLetter)), (o_knownPlace, .inl (cI, 5, .inl (upd v_knownPlace (ix v_known) x1)))] rfl ?_
  refine g_aload_n C 0 0 o dX10_know_48 rfl rfl ?_
  refine g_get C 10 ix_10 0 _ rfl rfl 10 (by decide) wm_134 rfl (.ref o_knownLetter) rfl dX10_know_49 ?_
  refine g_aload_n C 0 0 o dX10_know_52 rfl rfl ?_
  refine g_get C 10 ix_10 0 _ rfl rfl 11 (by decide) wm_381 rfl (.int v_known) rfl dX10_know_53 ?_
  refine g_iload_n C 2 2 x2 dX10_know_56 rfl rfl ?_
  obtain ⟨hi7, h⟩ := h
  refine g_iast C 1 0 cI 5 v_knownLetter rfl rfl hi7 dX10_know_57 [(o, .inr (10, [.ref o_text, .int v_length, .ref o_now, .ref o_trial, .ref o_diary, .int v_acts, .int v_next, .ref o_kept, .ref o_isKept, .ref o_knownPlace, .ref o_knownLetter, .int v_known, .long v_seed, .int v_wide, .int v_bits, .int v_parity, .int v_stops, .int v_idle, .int v_frames, .int v_failed, .int v_failedAt, .int v_margin, .ref o_letters, .ref o_starts, .int v_bestFrames, .ref o_bestLetters, .int v_alike, .int v_fitting, .ref o_deep, .ref o_worth, .int v_readLevel, .int v_readMany, .ref o_readTicks, .int v_part, .int v_ten])), (o_knownLetter, .inl (cI, 5, .inl (upd v_knownLetter (ix v_known) x2))), (o_knownPlace, .inl (cI, 5, .inl (upd v_knownPlace (ix v_known) x1)))] rfl ?_
  refine g_aload_n C 0 0 o dX10_know_58 rfl rfl ?_
  refine g_dup C dX10_know_59 rfl ?_
  refine g_get C 10 ix_10 0 _ rfl rfl 11 (by decide) wm_381 rfl (.int v_known) rfl dX10_know_60 ?_
  refine g_iconst C (1 : Int32) dX10_know_63 rfl ?_
  refine g_iadd C dX10_know_64 ?_
  refine g_put C 10 ix_10 0 _ rfl rfl 11 (by decide) wm_381 rfl tyX10 tyX10_ok nmX10 rfl rfl rfl (Nat.le_of_ble_eq_true rfl) dX10_know_65 [(o, .inr (10, [.ref o_text, .int v_length, .ref o_now, .ref o_trial, .ref o_diary, .int v_acts, .int v_next, .ref o_kept, .ref o_isKept, .ref o_knownPlace, .ref o_knownLetter, .int (v_known + (1 : Int32)), .long v_seed, .int v_wide, .int v_bits, .int v_parity, .int v_stops, .int v_idle, .int v_frames, .int v_failed, .int v_failedAt, .int v_margin, .ref o_letters, .ref o_starts, .int v_bestFrames, .ref o_bestLetters, .int v_alike, .int v_fitting, .ref o_deep, .ref o_worth, .int v_readLevel, .int v_readMany, .ref o_readTicks, .int v_part, .int v_ten])), (o_knownLetter, .inl (cI, 5, .inl (upd v_knownLetter (ix v_known) x2))), (o_knownPlace, .inl (cI, 5, .inl (upd v_knownPlace (ix v_known) x1)))] rfl ?_
  refine g_aload_n C 0 0 o dX10_know_68 rfl rfl ?_
  refine g_get C 10 ix_10 0 _ rfl rfl 11 (by decide) wm_381 rfl (.int (v_known + (1 : Int32))) rfl dX10_know_69 ?_
  exact hret _ ((v_known + (1 : Int32)), (upd v_knownLetter (ix v_known) x2), (upd v_knownPlace (ix v_known) x1)) _ _ _ dX10_know_72 h rfl
abbrev rmX10_forget : Room := { frames := 0, cells := 0, slots := 0, locals := 0 }
def wp_X10_forget (fu : Nat) (v_known : Int32) (Q : Int32 → Int32 → Prop) : Prop := Q v_known (0 : Int32)
set_option maxHeartbeats 4000000 in
set_option maxRecDepth 100000 in
theorem c_X10_forget (l : Launch) (D : va_G) (cI cJ cZ cW : ClassId) (o o_text o_now o_trial o_diary o_kept o_isKept o_knownPlace o_knownLetter o_letters o_starts o_bestLetters o_deep o_worth o_readTicks : Nat) (v_length : Int32) (v_acts : Int32) (v_next : Int32) (v_known : Int32) (v_seed : Int64) (v_wide : Int32) (v_bits : Int32) (v_parity : Int32) (v_stops : Int32) (v_idle : Int32) (v_frames : Int32) (v_failed : Int32) (v_failedAt : Int32) (v_margin : Int32) (v_bestFrames : Int32) (v_alike : Int32) (v_fitting : Int32) (v_readLevel : Int32) (v_readMany : Int32) (v_part : Int32) (v_ten : Int32) (fu : Nat) (Q : Int32 → Int32 → Prop) (h : wp_X10_forget fu v_known Q) : CtI l yX10_forget wkX10_forget rmX10_forget D (tys4 cI cJ cZ cW) [.ref o] [(o, .inr (10, [.ref o_text, .int v_length, .ref o_now, .ref o_trial, .ref o_diary, .int v_acts, .int v_next, .ref o_kept, .ref o_isKept, .ref o_knownPlace, .ref o_knownLetter, .int v_known, .long v_seed, .int v_wide, .int v_bits, .int v_parity, .int v_stops, .int v_idle, .int v_frames, .int v_failed, .int v_failedAt, .int v_margin, .ref o_letters, .ref o_starts, .int v_bestFrames, .ref o_bestLetters, .int v_alike, .int v_fitting, .ref o_deep, .ref o_worth, .int v_readLevel, .int v_readMany, .ref o_readTicks, .int v_part, .int v_ten]))] (fun (r : Int32) (u : Int32) => Q r u) (fun (u : Int32) => [(o, .inr (10, [.ref o_text, .int v_length, .ref o_now, .ref o_trial, .ref o_diary, .int v_acts, .int v_next, .ref o_kept, .ref o_isKept, .ref o_knownPlace, .ref o_knownLetter, .int u, .long v_seed, .int v_wide, .int v_bits, .int v_parity, .int v_stops, .int v_idle, .int v_frames, .int v_failed, .int v_failedAt, .int v_margin, .ref o_letters, .ref o_starts, .int v_bestFrames, .ref o_bestLetters, .int v_alike, .int v_fitting, .ref o_deep, .ref o_worth, .int v_readLevel, .int v_readMany, .ref o_readTicks, .int v_part, .int v_ten]))]) := by
  refine CtI.of (S := Int32) (y := yX10_forget) (Tc := wkX10_forget) (rm := rmX10_forget) (D := D) (tys := tys4 cI cJ cZ cW) (av := [.ref o]) (wc := [(o, .inr (10, [.ref o_text, .int v_length, .ref o_now, .ref o_trial, .ref o_diary, .int v_acts, .int v_next, .ref o_kept, .ref o_isKept, .ref o_knownPlace, .ref o_knownLetter, .int v_known, .long v_seed, .int v_wide, .int v_bits, .int v_parity, .int v_stops, .int v_idle, .int v_frames, .int v_failed, .int v_failedAt, .int v_margin, .ref o_letters, .ref o_starts, .int v_bestFrames, .ref o_bestLetters, .int v_alike, .int v_fitting, .ref o_deep, .ref o_worth, .int v_readLevel, .int v_readMany, .ref o_readTicks, .int v_part, .int v_ten]))]) (post := (fun (r : Int32) (u : Int32) => Q r u)) (w1 := (fun (u : Int32) => [(o, .inr (10, [.ref o_text, .int v_length, .ref o_now, .ref o_trial, .ref o_diary, .int v_acts, .int v_next, .ref o_kept, .ref o_isKept, .ref o_knownPlace, .ref o_knownLetter, .int u, .long v_seed, .int v_wide, .int v_bits, .int v_parity, .int v_stops, .int v_idle, .int v_frames, .int v_failed, .int v_failedAt, .int v_margin, .ref o_letters, .ref o_starts, .int v_bestFrames, .ref o_bestLetters, .int v_alike, .int v_fitting, .ref o_deep, .ref o_worth, .int v_readLevel, .int v_readMany, .ref o_readTicks, .int v_part, .int v_ten]))])) (cc := cX10_forget) (maxL := 2) RX10 rfl (by decide +kernel) rfl rfl [(0, .ref o)] rfl ?_
  intro p e s m args below meth c A Qm C hret
  unfold wp_X10_forget at h
  refine g_aload_n C 0 0 o dX10_forget_0 rfl rfl ?_
  refine g_get C 10 ix_10 0 _ rfl rfl 11 (by decide) wm_381 rfl (.int v_known) rfl dX10_forget_1 ?_
  refine g_istore_n C [(1, .int v_known), (0, .ref o)] dX10_forget_4 rfl (by decide) rfl ?_
  refine g_aload_n C 0 1 o dX10_forget_5 rfl rfl ?_
  refine g_iconst C (0 : Int32) dX10_forget_6 rfl ?_
  refine g_put C 10 ix_10 0 _ rfl rfl 11 (by decide) wm_381 rfl tyX10 tyX10_ok nmX10 rfl rfl rfl (Nat.le_of_ble_eq_true rfl) dX10_forget_7 [(o, .inr (10, [.ref o_text, .int v_length, .ref o_now, .ref o_trial, .ref o_diary, .int v_acts, .int v_next, .ref o_kept, .ref o_isKept, .ref o_knownPlace, .ref o_knownLetter, .int (0 : Int32), .long v_seed, .int v_wide, .int v_bits, .int v_parity, .int v_stops, .int v_idle, .int v_frames, .int v_failed, .int v_failedAt, .int v_margin, .ref o_letters, .ref o_starts, .int v_bestFrames, .ref o_bestLetters, .int v_alike, .int v_fitting, .ref o_deep, .ref o_worth, .int v_readLevel, .int v_readMany, .ref o_readTicks, .int v_part, .int v_ten]))] rfl ?_
  refine g_iload_n C 1 0 v_known dX10_forget_10 rfl rfl ?_
  exact hret _ (0 : Int32) _ _ _ dX10_forget_11 h rfl
abbrev rmX10_share : Room := { frames := 5, cells := 0, slots := 0, locals := 123 }
def wX10_share_121 (fu : Nat) (v_known : Int32) (v_deep : (Nat → Int32)) (v_knownLetter : (Nat → Int32)) (v_knownPlace : (Nat → Int32)) (v_now : (Nat → Int32)) (x1 : Int32) (x2 : Int32) (Q : Int32 → Int32 → Int32 → Int32 → Int32 → Int32 → Int32 → Int32 → Int32 → Int32 → (Nat → Int32) → (Nat → Int32) → (Nat → Int32) → Prop) (K53 : Int32 → Int32 → Int32 → Int32 → Int32 → Int32 → Int32 → Int32 → Int32 → Int32 → Int32 → (Nat → Int32) → (Nat → Int32) → (Nat → Int32) → Prop) (x3 : Int32) (x4 : Int32) (v_bits : Int32) (v_failed : Int32) (v_failedAt : Int32) (v_frames : Int32) (v_idle : Int32) (v_margin : Int32) (v_parity : Int32) (v_stops : Int32) (v_wide : Int32) (v_letters : (Nat → Int32)) (v_starts : (Nat → Int32)) (v_worth : (Nat → Int32)) : Prop := K53 x3 (x4 + (1 : Int32)) v_bits v_failed v_failedAt v_frames v_idle v_margin v_parity v_stops v_wide v_letters v_starts v_worth
def wX10_share_53 (fu : Nat) (v_known : Int32) (v_deep : (Nat → Int32)) (v_knownLetter : (Nat → Int32)) (v_knownPlace : (Nat → Int32)) (v_now : (Nat → Int32)) (x1 : Int32) (x2 : Int32) (Q : Int32 → Int32 → Int32 → Int32 → Int32 → Int32 → Int32 → Int32 → Int32 → Int32 → (Nat → Int32) → (Nat → Int32) → (Nat → Int32) → Prop) : Nat → Int32 → Int32 → Int32 → Int32 → Int32 → Int32 → Int32 → Int32 → Int32 → Int32 → Int32 → (Nat → Int32) → (Nat → Int32) → (Nat → Int32) → Prop
  | 0, _, _, _, _, _, _, _, _, _, _, _, _, _, _ => False
  | n0 + 1, x3, x4, v_bits, v_failed, v_failedAt, v_frames, v_idle, v_margin, v_parity, v_stops, v_wide, v_letters, v_starts, v_worth => (if (shl (1 : Int32) v_known) ≤ x4 then wp_X10_factorial fu v_known (fun (r18 : Int32) => wp_X10_fraction fu x3 r18 x2 (fun (r19 : Int32) => Q r19 v_bits v_failed v_failedAt v_frames v_idle v_margin v_parity v_stops v_wide v_letters v_starts v_worth)) else (if ((shr x4 x1) &&& (1 : Int32)) = 0 then wp_X10_ones fu x4 (fun (r21 : Int32) => wp_X10_factorial fu r21 (fun (r22 : Int32) => wp_X10_factorial fu ((v_known - (1 : Int32)) - r21) (fun (r23 : Int32) => (vp_in x4 32 ∧ (vp_in (x4 ||| (shl (1 : Int32) x1)) 32 ∧ (∀ y26 : Int32, y26 = (x3 + ((r22 * r23) * ((v_worth (ix x4)) - (v_worth (ix (x4 ||| (shl (1 : Int32) x1))))))) → wX10_share_121 fu v_known v_deep v_knownLetter v_knownPlace v_now x1 x2 Q (wX10_share_53 fu v_known v_deep v_knownLetter v_knownPlace v_now x1 x2 Q n0) y26 x4 v_bits v_failed v_failedAt v_frames v_idle v_margin v_parity v_stops v_wide v_letters v_starts v_worth)))))) else wX10_share_121 fu v_known v_deep v_knownLetter v_knownPlace v_now x1 x2 Q (wX10_share_53 fu v_known v_deep v_knownLetter v_knownPlace v_now x1 x2 Q n0) x3 x4 v_bits v_failed v_failedAt v_frames v_idle v_margin v_parity v_stops v_wide v_letters v_starts v_worth))
def wX10_share_20 (fu : Nat) (v_known : Int32) (v_deep : (Nat → Int32)) (v_knownLetter : (Nat → Int32)) (v_knownPlace : (Nat → Int32)) (v_now : (Nat → Int32)) (x1 : Int32) (x2 : Int32) (Q : Int32 → Int32 → Int32 → Int32 → Int32 → Int32 → Int32 → Int32 → Int32 → Int32 → (Nat → Int32) → (Nat → Int32) → (Nat → Int32) → Prop) : Nat → Int32 → Int32 → Int32 → Int32 → Int32 → Int32 → Int32 → Int32 → Int32 → Int32 → (Nat → Int32) → (Nat → Int32) → (Nat → Int32) → Prop
  | 0, _, _, _, _, _, _, _, _, _, _, _, _, _ => False
  | n0 + 1, x3, v_bits, v_failed, v_failedAt, v_frames, v_idle, v_margin, v_parity, v_stops, v_wide, v_letters, v_starts, v_worth => (if (shl (1 : Int32) v_known) ≤ x3 then wX10_share_53 fu v_known v_deep v_knownLetter v_knownPlace v_now x1 x2 Q fu (0 : Int32) (0 : Int32) v_bits v_failed v_failedAt v_frames v_idle v_margin v_parity v_stops v_wide v_letters v_starts v_worth else wp_X10_left fu v_known v_deep v_knownLetter v_knownPlace v_now x3 (0 : Int32) v_bits v_failed v_failedAt v_frames v_idle v_margin v_parity v_stops v_wide v_letters v_starts (fun (r15 : Int32) (z4 : Int32) (z5 : Int32) (z6 : Int32) (z7 : Int32) (z8 : Int32) (z9 : Int32) (z10 : Int32) (z11 : Int32) (z12 : Int32) (z13 : (Nat → Int32)) (z14 : (Nat → Int32)) => (vp_in x3 32 ∧ (wX10_share_20 fu v_known v_deep v_knownLetter v_knownPlace v_now x1 x2 Q n0) (x3 + (1 : Int32)) z4 z5 z6 z7 z8 z9 z10 z11 z12 z13 z14 (upd v_worth (ix x3) r15))))
def wp_X10_share (fu : Nat) (v_known : Int32) (v_deep : (Nat → Int32)) (v_knownLetter : (Nat → Int32)) (v_knownPlace : (Nat → Int32)) (v_now : (Nat → Int32)) (x1 : Int32) (x2 : Int32) (v_bits : Int32) (v_failed : Int32) (v_failedAt : Int32) (v_frames : Int32) (v_idle : Int32) (v_margin : Int32) (v_parity : Int32) (v_stops : Int32) (v_wide : Int32) (v_letters : (Nat → Int32)) (v_starts : (Nat → Int32)) (v_worth : (Nat → Int32)) (Q : Int32 → Int32 → Int32 → Int32 → Int32 → Int32 → Int32 → Int32 → Int32 → Int32 → (Nat → Int32) → (Nat → Int32) → (Nat → Int32) → Prop) : Prop := wp_X10_in fu (Int32.toInt64 x1) (0 : Int64) (Int32.toInt64 (v_known - (1 : Int32))) (fun (r1 : Int32) => (if r1 = 0 then Q (-1 : Int32) v_bits v_failed v_failedAt v_frames v_idle v_margin v_parity v_stops v_wide v_letters v_starts v_worth else wX10_share_20 fu v_known v_deep v_knownLetter v_knownPlace v_now x1 x2 Q fu (0 : Int32) v_bits v_failed v_failedAt v_frames v_idle v_margin v_parity v_stops v_wide v_letters v_starts v_worth))
set_option maxHeartbeats 4000000 in
set_option maxRecDepth 100000 in
theorem c_X10_share (l : Launch) (D : va_G) (cI cJ cZ cW : ClassId) (o o_text o_now o_trial o_diary o_kept o_isKept o_knownPlace o_knownLetter o_letters o_starts o_bestLetters o_deep o_worth o_readTicks : Nat) (v_length : Int32) (v_acts : Int32) (v_next : Int32) (v_known : Int32) (v_seed : Int64) (v_wide : Int32) (v_bits : Int32) (v_parity : Int32) (v_stops : Int32) (v_idle : Int32) (v_frames : Int32) (v_failed : Int32) (v_failedAt : Int32) (v_margin : Int32) (v_bestFrames : Int32) (v_alike : Int32) (v_fitting : Int32) (v_readLevel : Int32) (v_readMany : Int32) (v_part : Int32) (v_ten : Int32) (v_deep : (Nat → Int32)) (v_knownLetter : (Nat → Int32)) (v_knownPlace : (Nat → Int32)) (v_letters : (Nat → Int32)) (v_now : (Nat → Int32)) (v_starts : (Nat → Int32)) (v_worth : (Nat → Int32)) (x1 : Int32) (x2 : Int32) (fu : Nat) (Q : Int32 → Int32 → Int32 → Int32 → Int32 → Int32 → Int32 → Int32 → Int32 → Int32 → (Nat → Int32) → (Nat → Int32) → (Nat → Int32) → Prop) (h : wp_X10_share fu v_known v_deep v_knownLetter v_knownPlace v_now x1 x2 v_bits v_failed v_failedAt v_frames v_idle v_margin v_parity v_stops v_wide v_letters v_starts v_worth Q) : CtI l yX10_share wkX10_share rmX10_share D (tys4 cI cJ cZ cW) [.ref o, .int x1, .int x2] [(o, .inr (10, [.ref o_text, .int v_length, .ref o_now, .ref o_trial, .ref o_diary, .int v_acts, .int v_next, .ref o_kept, .ref o_isKept, .ref o_knownPlace, .ref o_knownLetter, .int v_known, .long v_seed, .int v_wide, .int v_bits, .int v_parity, .int v_stops, .int v_idle, .int v_frames, .int v_failed, .int v_failedAt, .int v_margin, .ref o_letters, .ref o_starts, .int v_bestFrames, .ref o_bestLetters, .int v_alike, .int v_fitting, .ref o_deep, .ref o_worth, .int v_readLevel, .int v_readMany, .ref o_readTicks, .int v_part, .int v_ten])), (o_deep, .inl (cI, 360, .inl v_deep)), (o_knownLetter, .inl (cI, 5, .inl v_knownLetter)), (o_knownPlace, .inl (cI, 5, .inl v_knownPlace)), (o_letters, .inl (cI, 64, .inl v_letters)), (o_now, .inl (cI, 361, .inl v_now)), (o_starts, .inl (cI, 64, .inl v_starts)), (o_worth, .inl (cI, 32, .inl v_worth))] (fun (r : Int32) (u : Int32 × Int32 × Int32 × Int32 × Int32 × Int32 × Int32 × Int32 × Int32 × (Nat → Int32) × (Nat → Int32) × (Nat → Int32)) => Q r u.1 u.2.1 u.2.2.1 u.2.2.2.1 u.2.2.2.2.1 u.2.2.2.2.2.1 u.2.2.2.2.2.2.1 u.2.2.2.2.2.2.2.1 u.2.2.2.2.2.2.2.2.1 u.2.2.2.2.2.2.2.2.2.1 u.2.2.2.2.2.2.2.2.2.2.1 u.2.2.2.2.2.2.2.2.2.2.2) (fun (u : Int32 × Int32 × Int32 × Int32 × Int32 × Int32 × Int32 × Int32 × Int32 × (Nat → Int32) × (Nat → Int32) × (Nat → Int32)) => [(o, .inr (10, [.ref o_text, .int v_length, .ref o_now, .ref o_trial, .ref o_diary, .int v_acts, .int v_next, .ref o_kept, .ref o_isKept, .ref o_knownPlace, .ref o_knownLetter, .int v_known, .long v_seed, .int u.2.2.2.2.2.2.2.2.1, .int u.1, .int u.2.2.2.2.2.2.1, .int u.2.2.2.2.2.2.2.1, .int u.2.2.2.2.1, .int u.2.2.2.1, .int u.2.1, .int u.2.2.1, .int u.2.2.2.2.2.1, .ref o_letters, .ref o_starts, .int v_bestFrames, .ref o_bestLetters, .int v_alike, .int v_fitting, .ref o_deep, .ref o_worth, .int v_readLevel, .int v_readMany, .ref o_readTicks, .int v_part, .int v_ten])), (o_deep, .inl (cI, 360, .inl v_deep)), (o_knownLetter, .inl (cI, 5, .inl v_knownLetter)), (o_knownPlace, .inl (cI, 5, .inl v_knownPlace)), (o_letters, .inl (cI, 64, .inl u.2.2.2.2.2.2.2.2.2.1)), (o_now, .inl (cI, 361, .inl v_now)), (o_starts, .inl (cI, 64, .inl u.2.2.2.2.2.2.2.2.2.2.1)), (o_worth, .inl (cI, 32, .inl u.2.2.2.2.2.2.2.2.2.2.2))]) := by
  refine CtI.of (S := Int32 × Int32 × Int32 × Int32 × Int32 × Int32 × Int32 × Int32 × Int32 × (Nat → Int32) × (Nat → Int32) × (Nat → Int32)) (y := yX10_share) (Tc := wkX10_share) (rm := rmX10_share) (D := D) (tys := tys4 cI cJ cZ cW) (av := [.ref o, .int x1, .int x2]) (wc := [(o, .inr (10, [.ref o_text, .int v_length, .ref o_now, .ref o_trial, .ref o_diary, .int v_acts, .int v_next, .ref o_kept, .ref o_isKept, .ref o_knownPlace, .ref o_knownLetter, .int v_known, .long v_seed, .int v_wide, .int v_bits, .int v_parity, .int v_stops, .int v_idle, .int v_frames, .int v_failed, .int v_failedAt, .int v_margin, .ref o_letters, .ref o_starts, .int v_bestFrames, .ref o_bestLetters, .int v_alike, .int v_fitting, .ref o_deep, .ref o_worth, .int v_readLevel, .int v_readMany, .ref o_readTicks, .int v_part, .int v_ten])), (o_deep, .inl (cI, 360, .inl v_deep)), (o_knownLetter, .inl (cI, 5, .inl v_knownLetter)), (o_knownPlace, .inl (cI, 5, .inl v_knownPlace)), (o_letters, .inl (cI, 64, .inl v_letters)), (o_now, .inl (cI, 361, .inl v_now)), (o_starts, .inl (cI, 64, .inl v_starts)), (o_worth, .inl (cI, 32, .inl v_worth))]) (post := (fun (r : Int32) (u : Int32 × Int32 × Int32 × Int32 × Int32 × Int32 × Int32 × Int32 × Int32 × (Nat → Int32) × (Nat → Int32) × (Nat → Int32)) => Q r u.1 u.2.1 u.2.2.1 u.2.2.2.1 u.2.2.2.2.1 u.2.2.2.2.2.1 u.2.2.2.2.2.2.1 u.2.2.2.2.2.2.2.1 u.2.2.2.2.2.2.2.2.1 u.2.2.2.2.2.2.2.2.2.1 u.2.2.2.2.2.2.2.2.2.2.1 u.2.2.2.2.2.2.2.2.2.2.2)) (w1 := (fun (u : Int32 × Int32 × Int32 × Int32 × Int32 × Int32 × Int32 × Int32 × Int32 × (Nat → Int32) × (Nat → Int32) × (Nat → Int32)) => [(o, .inr (10, [.ref o_text, .int v_length, .ref o_now, .ref o_trial, .ref o_diary, .int v_acts, .int v_next, .ref o_kept, .ref o_isKept, .ref o_knownPlace, .ref o_knownLetter, .int v_known, .long v_seed, .int u.2.2.2.2.2.2.2.2.1, .int u.1, .int u.2.2.2.2.2.2.1, .int u.2.2.2.2.2.2.2.1, .int u.2.2.2.2.1, .int u.2.2.2.1, .int u.2.1, .int u.2.2.1, .int u.2.2.2.2.2.1, .ref o_letters, .ref o_starts, .int v_bestFrames, .ref o_bestLetters, .int v_alike, .int v_fitting, .ref o_deep, .ref o_worth, .int v_readLevel, .int v_readMany, .ref o_readTicks, .int v_part, .int v_ten])), (o_deep, .inl (cI, 360, .inl v_deep)), (o_knownLetter, .inl (cI, 5, .inl v_knownLetter)), (o_knownPlace, .inl (cI, 5, .inl v_knownPlace)), (o_letters, .inl (cI, 64, .inl u.2.2.2.2.2.2.2.2.2.1)), (o_now, .inl (cI, 361, .inl v_now)), (o_starts, .inl (cI, 64, .inl u.2.2.2.2.2.2.2.2.2.2.1)), (o_worth, .inl (cI, 32, .inl u.2.2.2.2.2.2.2.2.2.2.2))])) (cc := cX10_share) (maxL := 6) RX10 rfl (by decide +kernel) rfl rfl [(0, .ref o), (1, .int x1), (2, .int x2)] rfl ?_
  intro p e s m args below meth c A Qm C hret
  have H53 : ∀ (n53 : Nat) (x3 : Int32) (x4 : Int32) (v_bits : Int32) (v_failed : Int32) (v_failedAt : Int32) (v_frames : Int32) (v_idle : Int32) (v_margin : Int32) (v_parity : Int32) (v_stops : Int32) (v_wide : Int32) (v_letters : (Nat → Int32)) (v_starts : (Nat → Int32)) (v_worth : (Nat → Int32)), wX10_share_53 fu v_known v_deep v_knownLetter v_knownPlace v_now x1 x2 Q n53 x3 x4 v_bits v_failed v_failedAt v_frames v_idle v_margin v_parity v_stops v_wide v_letters v_starts v_worth → G p l e rmX10_share s m args below meth c D A 6 0 0 Qm [(o, .inr (10, [.ref o_text, .int v_length, .ref o_now, .ref o_trial, .ref o_diary, .int v_acts, .int v_next, .ref o_kept, .ref o_isKept, .ref o_knownPlace, .ref o_knownLetter, .int v_known, .long v_seed, .int v_wide, .int v_bits, .int v_parity, .int v_stops, .int v_idle, .int v_frames, .int v_failed, .int v_failedAt, .int v_margin, .ref o_letters, .ref o_starts, .int v_bestFrames, .ref o_bestLetters, .int v_alike, .int v_fitting, .ref o_deep, .ref o_worth, .int v_readLevel, .int v_readMany, .ref o_readTicks, .int v_part, .int v_ten])), (o_deep, .inl (cI, 360, .inl v_deep)), (o_knownLetter, .inl (cI, 5, .inl v_knownLetter)), (o_knownPlace, .inl (cI, 5, .inl v_knownPlace)), (o_letters, .inl (cI, 64, .inl v_letters)), (o_now, .inl (cI, 361, .inl v_now)), (o_starts, .inl (cI, 64, .inl v_starts)), (o_worth, .inl (cI, 32, .inl v_worth))] [(0, .ref o), (1, .int x1), (2, .int x2), (3, .int x3), (4, .int x4)] 53 [] := by
    intro n53
    induction n53 with
    | zero => intro x3 x4 v_bits v_failed v_failedAt v_frames v_idle v_margin v_parity v_stops v_wide v_letters v_starts v_worth h; exact False.elim h
    | succ n53 ih53 =>
      have H121 : ∀ (x3 : Int32) (x4 : Int32) (v_bits : Int32) (v_failed : Int32) (v_failedAt : Int32) (v_frames : Int32) (v_idle : Int32) (v_margin : Int32) (v_parity : Int32) (v_stops : Int32) (v_wide : Int32) (v_letters : (Nat → Int32)) (v_starts : (Nat → Int32)) (v_worth : (Nat → Int32)), wX10_share_121 fu v_known v_deep v_knownLetter v_knownPlace v_now x1 x2 Q (wX10_share_53 fu v_known v_deep v_knownLetter v_knownPlace v_now x1 x2 Q n53) x3 x4 v_bits v_failed v_failedAt v_frames v_idle v_margin v_parity v_stops v_wide v_letters v_starts v_worth → G p l e rmX10_share s m args below meth c D A 6 0 0 Qm [(o, .inr (10, [.ref o_text, .int v_length, .ref o_now, .ref o_trial, .ref o_diary, .int v_acts, .int v_next, .ref o_kept, .ref o_isKept, .ref o_knownPlace, .ref o_knownLetter, .int v_known, .long v_seed, .int v_wide, .int v_bits, .int v_parity, .int v_stops, .int v_idle, .int v_frames, .int v_failed, .int v_failedAt, .int v_margin, .ref o_letters, .ref o_starts, .int v_bestFrames, .ref o_bestLetters, .int v_alike, .int v_fitting, .ref o_deep, .ref o_worth, .int v_readLevel, .int v_readMany, .ref o_readTicks, .int v_part, .int v_ten])), (o_deep, .inl (cI, 360, .inl v_deep)), (o_knownLetter, .inl (cI, 5, .inl v_knownLetter)), (o_knownPlace, .inl (cI, 5, .inl v_knownPlace)), (o_letters, .inl (cI, 64, .inl v_letters)), (o_now, .inl (cI, 361, .inl v_now)), (o_starts, .inl (cI, 64, .inl v_starts)), (o_worth, .inl (cI, 32, .inl v_worth))] [(0, .ref o), (1, .int x1), (2, .int x2), (3, .int x3), (4, .int x4)] 121 [] := by
        intro x3 x4 v_bits v_failed v_failedAt v_frames v_idle v_margin v_parity v_stops v_wide v_letters v_starts v_worth h
        unfold wX10_share_121 at h
        refine g_iinc C 4 x4 (x4 + (1 : Int32)) [(4, .int (x4 + (1 : Int32))), (0, .ref o), (1, .int x1), (2, .int x2), (3, .int x3)] dX10_share_121 rfl rfl (by decide) rfl ?_
        refine g_goto C 53 dX10_share_124 (by decide) ?_
        refine g_lv [1, 2, 3, 4, 0] rfl ?_
        exact ih53  x3 (x4 + (1 : Int32)) v_bits v_failed v_failedAt v_frames v_idle v_margin v_parity v_stops v_wide v_letters v_starts v_worth h
      intro x3 x4 v_bits v_failed v_failedAt v_frames v_idle v_margin v_parity v_stops v_wide v_letters v_starts v_worth h
      unfold wX10_share_53 at h
      refine g_iload C 4 4 x4 dX10_share_53 rfl ?_
      refine g_iconst C (1 : Int32) dX10_share_55 rfl ?_
      refine g_aload_n C 0 0 o dX10_share_56 rfl rfl ?_
      refine g_get C 10 ix_10 0 _ rfl rfl 11 (by decide) wm_381 rfl (.int v_known) rfl dX10_share_57 ?_
      refine g_ishl C dX10_share_60 ?_
      refine g_icmp_ge C 127 dX10_share_61 (by decide) (fun c17 => ?_) (fun c17 => ?_)
      · have h := wp_t c17 h
        refine g_iload_n C 3 3 x3 dX10_share_127 rfl rfl ?_
        refine g_aload_n C 0 0 o dX10_share_128 rfl rfl ?_
        refine g_get C 10 ix_10 0 _ rfl rfl 11 (by decide) wm_381 rfl (.int v_known) rfl dX10_share_129 ?_
        refine g_callSi0 (As := [.int v_known]) (rest := [.int x3]) C (c_X10_factorial l D cI cJ cZ cW v_known fu _ h) 1 gd_X10_248 rfl rfl rfl (by decide +kernel) ⟨Nat.le_of_ble_eq_true rfl, Nat.le_of_ble_eq_true rfl⟩ ⟨Nat.le_of_ble_eq_true rfl, Nat.le_of_ble_eq_true rfl⟩ rfl rfl (Nat.le_of_ble_eq_true rfl) [] rfl rfl dX10_share_132 (fun r18 h => ?_)
        refine g_iload_n C 2 2 x2 dX10_share_135 rfl rfl ?_
        refine g_callSi0 (As := [.int x3, .int r18, .int x2]) (rest := []) C (c_X10_fraction l D cI cJ cZ cW x3 r18 x2 fu _ h) 3 gd_X10_251 rfl rfl rfl (by decide +kernel) ⟨Nat.le_of_ble_eq_true rfl, Nat.le_of_ble_eq_true rfl⟩ ⟨Nat.le_of_ble_eq_true rfl, Nat.le_of_ble_eq_true rfl⟩ rfl rfl (Nat.le_of_ble_eq_true rfl) [] rfl rfl dX10_share_136 (fun r19 h => ?_)
        exact hret _ (v_bits, v_failed, v_failedAt, v_frames, v_idle, v_margin, v_parity, v_stops, v_wide, v_letters, v_starts, v_worth) _ _ _ dX10_share_139 h rfl
      have h := wp_f c17 h
      refine g_iload C 4 4 x4 dX10_share_64 rfl ?_
      refine g_iload_n C 1 1 x1 dX10_share_66 rfl rfl ?_
      refine g_ishr C dX10_share_67 ?_
      refine g_iconst C (1 : Int32) dX10_share_68 rfl ?_
      refine g_iand C dX10_share_69 ?_
      refine g_if_ne C 121 dX10_share_70 (by decide) (fun c20 => ?_) (fun c20 => ?_)
      · have h := wp_f c20 h
        refine g_lv [0, 1, 2, 3, 4] rfl ?_
        exact H121  x3 x4 v_bits v_failed v_failedAt v_frames v_idle v_margin v_parity v_stops v_wide v_letters v_starts v_worth h
      have h := wp_t c20 h
      refine g_iload C 4 4 x4 dX10_share_73 rfl ?_
      refine g_callSi0 (As := [.int x4]) (rest := []) C (c_X10_ones l D cI cJ cZ cW x4 fu _ h) 1 gd_X10_245 rfl rfl rfl (by decide +kernel) ⟨Nat.le_of_ble_eq_true rfl, Nat.le_of_ble_eq_true rfl⟩ ⟨Nat.le_of_ble_eq_true rfl, Nat.le_of_ble_eq_true rfl⟩ rfl rfl (Nat.le_of_ble_eq_true rfl) [] rfl rfl dX10_share_75 (fun r21 h => ?_)
      refine g_istore C [(5, .int r21), (0, .ref o), (1, .int x1), (2, .int x2), (3, .int x3), (4, .int x4)] dX10_share_78 (by decide) rfl ?_
      refine g_iload_n C 3 4 x3 dX10_share_80 rfl rfl ?_
      refine g_iload C 5 0 r21 dX10_share_81 rfl ?_
      refine g_callSi0 (As := [.int r21]) (rest := [.int x3]) C (c_X10_factorial l D cI cJ cZ cW r21 fu _ h) 1 gd_X10_248 rfl rfl rfl (by decide +kernel) ⟨Nat.le_of_ble_eq_true rfl, Nat.le_of_ble_eq_true rfl⟩ ⟨Nat.le_of_ble_eq_true rfl, Nat.le_of_ble_eq_true rfl⟩ rfl rfl (Nat.le_of_ble_eq_true rfl) [] rfl rfl dX10_share_83 (fun r22 h => ?_)
      refine g_aload_n C 0 1 o dX10_share_86 rfl rfl ?_
      refine g_get C 10 ix_10 0 _ rfl rfl 11 (by decide) wm_381 rfl (.int v_known) rfl dX10_share_87 ?_
      refine g_iconst C (1 : Int32) dX10_share_90 rfl ?_
      refine g_isub C dX10_share_91 ?_
      refine g_iload C 5 0 r21 dX10_share_92 rfl ?_
      refine g_isub C dX10_share_94 ?_
      refine g_callSi0 (As := [.int ((v_known - (1 : Int32)) - r21)]) (rest := [.int r22, .int x3]) C (c_X10_factorial l D cI cJ cZ cW ((v_known - (1 : Int32)) - r21) fu _ h) 1 gd_X10_248 rfl rfl rfl (by decide +kernel) ⟨Nat.le_of_ble_eq_true rfl, Nat.le_of_ble_eq_true rfl⟩ ⟨Nat.le_of_ble_eq_true rfl, Nat.le_of_ble_eq_true rfl⟩ rfl rfl (Nat.le_of_ble_eq_true rfl) [] rfl rfl dX10_share_95 (fun r23 h => ?_)
      refine g_imul C dX10_share_98 ?_
      refine g_aload_n C 0 1 o dX10_share_99 rfl rfl ?_
      refine g_get C 10 ix_10 0 _ rfl rfl 29 (by decide) wm_139 rfl (.ref o_worth) rfl dX10_share_100 ?_
      refine g_iload C 4 5 x4 dX10_share_103 rfl ?_
      obtain ⟨hi24, h⟩ := h
      refine g_iald C 7 0 cI 32 v_worth rfl rfl hi24 dX10_share_105 ?_
      refine g_aload_n C 0 1 o dX10_share_106 rfl rfl ?_
      refine g_get C 10 ix_10 0 _ rfl rfl 29 (by decide) wm_139 rfl (.ref o_worth) rfl dX10_share_107 ?_
      refine g_iload C 4 5 x4 dX10_share_110 rfl ?_
      refine g_iconst C (1 : Int32) dX10_share_112 rfl ?_
      refine g_iload_n C 1 2 x1 dX10_share_113 rfl rfl ?_
      refine g_ishl C dX10_share_114 ?_
      refine g_ior C dX10_share_115 ?_
      obtain ⟨hi25, h⟩ := h
      refine g_iald C 7 0 cI 32 v_worth rfl rfl hi25 dX10_share_116 ?_
      refine g_isub C dX10_share_117 ?_
      refine g_imul C dX10_share_118 ?_
      refine g_iadd C dX10_share_119 ?_
      refine g_topi (fun y26 ey26 => ?_)
      have h := h y26 ey26
      refine g_istore_n C [(3, .int y26), (5, .int r21), (0, .ref o), (1, .int x1), (2, .int x2), (4, .int x4)] dX10_share_120 rfl (by decide) rfl ?_
      refine g_lv [2, 3, 4, 0, 5] rfl ?_
      exact H121  y26 x4 v_bits v_failed v_failedAt v_frames v_idle v_margin v_parity v_stops v_wide v_letters v_starts v_worth h
  have H20 : ∀ (n20 : Nat) (x3 : Int32) (v_bits : Int32) (v_failed : Int32) (v_failedAt : Int32) (v_frames : Int32) (v_idle : Int32) (v_margin : Int32) (v_parity : Int32) (v_stops : Int32) (v_wide : Int32) (v_letters : (Nat → Int32)) (v_starts : (Nat → Int32)) (v_worth : (Nat → Int32)), wX10_share_20 fu v_known v_deep v_knownLetter v_knownPlace v_now x1 x2 Q n20 x3 v_bits v_failed v_failedAt v_frames v_idle v_margin v_parity v_stops v_wide v_letters v_starts v_worth → G p l e rmX10_share s m args below meth c D A 6 0 0 Qm [(o, .inr (10, [.ref o_text, .int v_length, .ref o_now, .ref o_trial, .ref o_diary, .int v_acts, .int v_next, .ref o_kept, .ref o_isKept, .ref o_knownPlace, .ref o_knownLetter, .int v_known, .long v_seed, .int v_wide, .int v_bits, .int v_parity, .int v_stops, .int v_idle, .int v_frames, .int v_failed, .int v_failedAt, .int v_margin, .ref o_letters, .ref o_starts, .int v_bestFrames, .ref o_bestLetters, .int v_alike, .int v_fitting, .ref o_deep, .ref o_worth, .int v_readLevel, .int v_readMany, .ref o_readTicks, .int v_part, .int v_ten])), (o_deep, .inl (cI, 360, .inl v_deep)), (o_knownLetter, .inl (cI, 5, .inl v_knownLetter)), (o_knownPlace, .inl (cI, 5, .inl v_knownPlace)), (o_letters, .inl (cI, 64, .inl v_letters)), (o_now, .inl (cI, 361, .inl v_now)), (o_starts, .inl (cI, 64, .inl v_starts)), (o_worth, .inl (cI, 32, .inl v_worth))] [(0, .ref o), (1, .int x1), (2, .int x2), (3, .int x3)] 20 [] := by
    intro n20
    induction n20 with
    | zero => intro x3 v_bits v_failed v_failedAt v_frames v_idle v_margin v_parity v_stops v_wide v_letters v_starts v_worth h; exact False.elim h
    | succ n20 ih20 =>
      intro x3 v_bits v_failed v_failedAt v_frames v_idle v_margin v_parity v_stops v_wide v_letters v_starts v_worth h
      unfold wX10_share_20 at h
      refine g_iload_n C 3 3 x3 dX10_share_20 rfl rfl ?_
      refine g_iconst C (1 : Int32) dX10_share_21 rfl ?_
      refine g_aload_n C 0 0 o dX10_share_22 rfl rfl ?_
      refine g_get C 10 ix_10 0 _ rfl rfl 11 (by decide) wm_381 rfl (.int v_known) rfl dX10_share_23 ?_
      refine g_ishl C dX10_share_26 ?_
      refine g_icmp_ge C 48 dX10_share_27 (by decide) (fun c3 => ?_) (fun c3 => ?_)
      · have h := wp_t c3 h
        refine g_iconst C (0 : Int32) dX10_share_48 rfl ?_
        refine g_istore_n C [(3, .int (0 : Int32)), (0, .ref o), (1, .int x1), (2, .int x2)] dX10_share_49 rfl (by decide) rfl ?_
        refine g_iconst C (0 : Int32) dX10_share_50 rfl ?_
        refine g_istore C [(4, .int (0 : Int32)), (3, .int (0 : Int32)), (0, .ref o), (1, .int x1), (2, .int x2)] dX10_share_51 (by decide) rfl ?_
        refine g_lv [2, 3, 4, 1, 0] rfl ?_
        exact H53 fu  (0 : Int32) (0 : Int32) v_bits v_failed v_failedAt v_frames v_idle v_margin v_parity v_stops v_wide v_letters v_starts v_worth h
      have h := wp_f c3 h
      refine g_aload_n C 0 0 o dX10_share_30 rfl rfl ?_
      refine g_get C 10 ix_10 0 _ rfl rfl 29 (by decide) wm_139 rfl (.ref o_worth) rfl dX10_share_31 ?_
      refine g_iload_n C 3 3 x3 dX10_share_34 rfl rfl ?_
      refine g_aload_n C 0 0 o dX10_share_35 rfl rfl ?_
      refine g_iload_n C 3 3 x3 dX10_share_36 rfl rfl ?_
      refine g_iconst C (0 : Int32) dX10_share_37 rfl ?_
      refine g_callVi (As := [.int x3, .int (0 : Int32)]) (rest := [.int x3, .ref o_worth]) C (c_X10_left l D cI cJ cZ cW o o_text o_now o_trial o_diary o_kept o_isKept o_knownPlace o_knownLetter o_letters o_starts o_bestLetters o_deep o_worth o_readTicks v_length v_acts v_next v_known v_seed v_wide v_bits v_parity v_stops v_idle v_frames v_failed v_failedAt v_margin v_bestFrames v_alike v_fitting v_readLevel v_readMany v_part v_ten v_deep v_knownLetter v_knownPlace v_letters v_now v_starts x3 (0 : Int32) fu _ h) 2 gd_X10_200 rfl rfl rfl (by decide +kernel) ⟨Nat.le_of_ble_eq_true rfl, Nat.le_of_ble_eq_true rfl⟩ ⟨Nat.le_of_ble_eq_true rfl, Nat.le_of_ble_eq_true rfl⟩ 10 0 rfl rfl rfl rfl (Nat.le_of_ble_eq_true rfl) [0, 1, 2, 3, 4, 5, 6] [some 0, some 1, some 2, some 3, some 4, some 5, some 6, none] rfl rfl rfl dX10_share_38 (fun r15 u h => ?_)
      obtain ⟨z4, z5, z6, z7, z8, z9, z10, z11, z12, z13, z14⟩ := u
      refine ⟨[(o, .inr (10, [.ref o_text, .int v_length, .ref o_now, .ref o_trial, .ref o_diary, .int v_acts, .int v_next, .ref o_kept, .ref o_isKept, .ref o_knownPlace, .ref o_knownLetter, .int v_known, .long v_seed, .int z12, .int z4, .int z10, .int z11, .int z8, .int z7, .int z5, .int z6, .int z9, .ref o_letters, .ref o_starts, .int v_bestFrames, .ref o_bestLetters, .int v_alike, .int v_fitting, .ref o_deep, .ref o_worth, .int v_readLevel, .int v_readMany, .ref o_readTicks, .int v_part, .int v_ten])), (o_deep, .inl (cI, 360, .inl v_deep)), (o_knownLetter, .inl (cI, 5, .inl v_knownLetter)), (o_knownPlace, .inl (cI, 5, .inl v_knownPlace)), (o_letters, .inl (cI, 64, .inl z13)), (o_now, .inl (cI, 361, .inl v_now)), (o_starts, .inl (cI, 64, .inl z14)), (o_worth, .inl (cI, 32, .inl v_worth))], rfl, rfl, rfl, ?_⟩
      obtain ⟨hi16, h⟩ := h
      refine g_iast C 7 0 cI 32 v_worth rfl rfl hi16 dX10_share_41 [(o, .inr (10, [.ref o_text, .int v_length, .ref o_now, .ref o_trial, .ref o_diary, .int v_acts, .int v_next, .ref o_kept, .ref o_isKept, .ref o_knownPlace, .ref o_knownLetter, .int v_known, .long v_seed, .int z12, .int z4, .int z10, .int z11, .int z8, .int z7, .int z5, .int z6, .int z9, .ref o_letters, .ref o_starts, .int v_bestFrames, .ref o_bestLetters, .int v_alike, .int v_fitting, .ref o_deep, .ref o_worth, .int v_readLevel, .int v_readMany, .ref o_readTicks, .int v_part, .int v_ten])), (o_deep, .inl (cI, 360, .inl v_deep)), (o_knownLetter, .inl (cI, 5, .inl v_knownLetter)), (o_knownPlace, .inl (cI, 5, .inl v_knownPlace)), (o_letters, .inl (cI, 64, .inl z13)), (o_now, .inl (cI, 361, .inl v_now)), (o_starts, .inl (cI, 64, .inl z14)), (o_worth, .inl (cI, 32, .inl (upd v_worth (ix x3) r15)))] rfl ?_
      refine g_iinc C 3 x3 (x3 + (1 : Int32)) [(3, .int (x3 + (1 : Int32))), (0, .ref o), (1, .int x1), (2, .int x2)] dX10_share_42 rfl rfl (by decide) rfl ?_
      refine g_goto C 20 dX10_share_45 (by decide) ?_
      refine g_lv [1, 2, 3, 0] rfl ?_
      exact ih20  (x3 + (1 : Int32)) z4 z5 z6 z7 z8 z9 z10 z11 z12 z13 z14 (upd v_worth (ix x3) r15) h
  unfold wp_X10_share at h
  refine g_iload_n C 1 1 x1 dX10_share_0 rfl rfl ?_
  refine g_i2l C dX10_share_1 ?_
  refine g_lconst C (0 : Int64) dX10_share_2 rfl ?_
  refine g_aload_n C 0 0 o dX10_share_3 rfl rfl ?_
  refine g_get C 10 ix_10 0 _ rfl rfl 11 (by decide) wm_381 rfl (.int v_known) rfl dX10_share_4 ?_
  refine g_iconst C (1 : Int32) dX10_share_7 rfl ?_
  refine g_isub C dX10_share_8 ?_
  refine g_i2l C dX10_share_9 ?_
  refine g_callSi0 (As := [.long (Int32.toInt64 x1), .long (0 : Int64), .long (Int32.toInt64 (v_known - (1 : Int32)))]) (rest := []) C (c_X10_in l D cI cJ cZ cW (Int32.toInt64 x1) (0 : Int64) (Int32.toInt64 (v_known - (1 : Int32))) fu _ h) 3 gd_X10_53 rfl rfl rfl (by decide +kernel) ⟨Nat.le_of_ble_eq_true rfl, Nat.le_of_ble_eq_true rfl⟩ ⟨Nat.le_of_ble_eq_true rfl, Nat.le_of_ble_eq_true rfl⟩ rfl rfl (Nat.le_of_ble_eq_true rfl) [] rfl rfl dX10_share_10 (fun r1 h => ?_)
  obtain ⟨hzr1, h⟩ := h
  refine g_if_ne C 18 dX10_share_13 (by decide) (fun c2 => ?_) (fun c2 => ?_)
  rotate_left
  · have h := wp_t c2 h
    refine g_iconst C (-1 : Int32) dX10_share_16 rfl ?_
    exact hret _ (v_bits, v_failed, v_failedAt, v_frames, v_idle, v_margin, v_parity, v_stops, v_wide, v_letters, v_starts, v_worth) _ _ _ dX10_share_17 h rfl
  have h := wp_f c2 h
  refine g_iconst C (0 : Int32) dX10_share_18 rfl ?_
  refine g_istore_n C [(3, .int (0 : Int32)), (0, .ref o), (1, .int x1), (2, .int x2)] dX10_share_19 rfl (by decide) rfl ?_
  refine g_lv [1, 2, 3, 0] rfl ?_
  exact H20 fu  (0 : Int32) v_bits v_failed v_failedAt v_frames v_idle v_margin v_parity v_stops v_wide v_letters v_starts v_worth h
abbrev rmX10_flipSome : Room := { frames := 1, cells := 0, slots := 0, locals := 22 }
def wX10_flipSome_85 (fu : Nat) (v_now : (Nat → Int32)) (x1 : Int32) (Q : (Nat → Int32) → Prop) (K15 : Int32 → Int32 → (Nat → Int32) → Prop) (x2 : Int32) (x3 : Int32) (v_trial : (Nat → Int32)) : Prop := K15 x2 (x3 + (1 : Int32)) v_trial
def wX10_flipSome_81 (fu : Nat) (v_now : (Nat → Int32)) (x1 : Int32) (Q : (Nat → Int32) → Prop) (K15 : Int32 → Int32 → (Nat → Int32) → Prop) (x2 : Int32) (x3 : Int32) (k1 : Int32) (k2 : Int32) (v_trial : (Nat → Int32)) : Prop := (vp_in k1 361 ∧ wX10_flipSome_85 fu v_now x1 Q K15 (x2 + (1 : Int32)) x3 (upd v_trial (ix k1) k2))
def wX10_flipSome_75 (fu : Nat) (v_now : (Nat → Int32)) (x1 : Int32) (Q : (Nat → Int32) → Prop) (K15 : Int32 → Int32 → (Nat → Int32) → Prop) (x2 : Int32) (x3 : Int32) (k1 : Int32) (v_trial : (Nat → Int32)) : Prop := (vp_in x3 361 ∧ wX10_flipSome_81 fu v_now x1 Q K15 x2 x3 k1 (v_now (ix x3)) v_trial)
def wX10_flipSome_15 (fu : Nat) (v_now : (Nat → Int32)) (x1 : Int32) (Q : (Nat → Int32) → Prop) : Nat → Int32 → Int32 → (Nat → Int32) → Prop
  | 0, _, _, _ => False
  | n0 + 1, x2, x3, v_trial => (if (v_now (ix (360 : Int32))) ≤ x3 then Q v_trial else (vp_in x3 361 ∧ (vp_in (x3 - (1 : Int32)) 361 ∧ (if (v_now (ix x3)) = (v_now (ix (x3 - (1 : Int32)))) then wX10_flipSome_85 fu v_now x1 Q (wX10_flipSome_15 fu v_now x1 Q n0) x2 x3 v_trial else (if (6 : Int32) ≤ x2 then wX10_flipSome_75 fu v_now x1 Q (wX10_flipSome_15 fu v_now x1 Q n0) x2 x3 x3 v_trial else (if ((shr x1 x2) &&& (1 : Int32)) = (1 : Int32) then (vp_in x3 361 ∧ wX10_flipSome_81 fu v_now x1 Q (wX10_flipSome_15 fu v_now x1 Q n0) x2 x3 x3 ((1 : Int32) - (v_now (ix x3))) v_trial) else wX10_flipSome_75 fu v_now x1 Q (wX10_flipSome_15 fu v_now x1 Q n0) x2 x3 x3 v_trial))))))
def wp_X10_flipSome (fu : Nat) (v_now : (Nat → Int32)) (x1 : Int32) (v_trial : (Nat → Int32)) (Q : (Nat → Int32) → Prop) : Prop := wp_X10_copy fu v_now v_trial (fun (z1 : (Nat → Int32)) => wX10_flipSome_15 fu v_now x1 Q fu (0 : Int32) (1 : Int32) z1)
set_option maxHeartbeats 4000000 in
set_option maxRecDepth 100000 in
theorem c_X10_flipSome (l : Launch) (D : va_G) (cI cJ cZ cW : ClassId) (o o_text o_now o_trial o_diary o_kept o_isKept o_knownPlace o_knownLetter o_letters o_starts o_bestLetters o_deep o_worth o_readTicks : Nat) (v_length : Int32) (v_acts : Int32) (v_next : Int32) (v_known : Int32) (v_seed : Int64) (v_wide : Int32) (v_bits : Int32) (v_parity : Int32) (v_stops : Int32) (v_idle : Int32) (v_frames : Int32) (v_failed : Int32) (v_failedAt : Int32) (v_margin : Int32) (v_bestFrames : Int32) (v_alike : Int32) (v_fitting : Int32) (v_readLevel : Int32) (v_readMany : Int32) (v_part : Int32) (v_ten : Int32) (v_now : (Nat → Int32)) (v_trial : (Nat → Int32)) (x1 : Int32) (fu : Nat) (Q : (Nat → Int32) → Prop) (h : wp_X10_flipSome fu v_now x1 v_trial Q) : CtV l yX10_flipSome wkX10_flipSome rmX10_flipSome D (tys4 cI cJ cZ cW) [.ref o, .int x1] [(o, .inr (10, [.ref o_text, .int v_length, .ref o_now, .ref o_trial, .ref o_diary, .int v_acts, .int v_next, .ref o_kept, .ref o_isKept, .ref o_knownPlace, .ref o_knownLetter, .int v_known, .long v_seed, .int v_wide, .int v_bits, .int v_parity, .int v_stops, .int v_idle, .int v_frames, .int v_failed, .int v_failedAt, .int v_margin, .ref o_letters, .ref o_starts, .int v_bestFrames, .ref o_bestLetters, .int v_alike, .int v_fitting, .ref o_deep, .ref o_worth, .int v_readLevel, .int v_readMany, .ref o_readTicks, .int v_part, .int v_ten])), (o_now, .inl (cI, 361, .inl v_now)), (o_trial, .inl (cI, 361, .inl v_trial))] (fun (u : (Nat → Int32)) => Q u) (fun (u : (Nat → Int32)) => [(o, .inr (10, [.ref o_text, .int v_length, .ref o_now, .ref o_trial, .ref o_diary, .int v_acts, .int v_next, .ref o_kept, .ref o_isKept, .ref o_knownPlace, .ref o_knownLetter, .int v_known, .long v_seed, .int v_wide, .int v_bits, .int v_parity, .int v_stops, .int v_idle, .int v_frames, .int v_failed, .int v_failedAt, .int v_margin, .ref o_letters, .ref o_starts, .int v_bestFrames, .ref o_bestLetters, .int v_alike, .int v_fitting, .ref o_deep, .ref o_worth, .int v_readLevel, .int v_readMany, .ref o_readTicks, .int v_part, .int v_ten])), (o_now, .inl (cI, 361, .inl v_now)), (o_trial, .inl (cI, 361, .inl u))]) := by
  refine CtV.of (S := (Nat → Int32)) (y := yX10_flipSome) (Tc := wkX10_flipSome) (rm := rmX10_flipSome) (D := D) (tys := tys4 cI cJ cZ cW) (av := [.ref o, .int x1]) (wc := [(o, .inr (10, [.ref o_text, .int v_length, .ref o_now, .ref o_trial, .ref o_diary, .int v_acts, .int v_next, .ref o_kept, .ref o_isKept, .ref o_knownPlace, .ref o_knownLetter, .int v_known, .long v_seed, .int v_wide, .int v_bits, .int v_parity, .int v_stops, .int v_idle, .int v_frames, .int v_failed, .int v_failedAt, .int v_margin, .ref o_letters, .ref o_starts, .int v_bestFrames, .ref o_bestLetters, .int v_alike, .int v_fitting, .ref o_deep, .ref o_worth, .int v_readLevel, .int v_readMany, .ref o_readTicks, .int v_part, .int v_ten])), (o_now, .inl (cI, 361, .inl v_now)), (o_trial, .inl (cI, 361, .inl v_trial))]) (post := (fun (u : (Nat → Int32)) => Q u)) (w1 := (fun (u : (Nat → Int32)) => [(o, .inr (10, [.ref o_text, .int v_length, .ref o_now, .ref o_trial, .ref o_diary, .int v_acts, .int v_next, .ref o_kept, .ref o_isKept, .ref o_knownPlace, .ref o_knownLetter, .int v_known, .long v_seed, .int v_wide, .int v_bits, .int v_parity, .int v_stops, .int v_idle, .int v_frames, .int v_failed, .int v_failedAt, .int v_margin, .ref o_letters, .ref o_starts, .int v_bestFrames, .ref o_bestLetters, .int v_alike, .int v_fitting, .ref o_deep, .ref o_worth, .int v_readLevel, .int v_readMany, .ref o_readTicks, .int v_part, .int v_ten])), (o_now, .inl (cI, 361, .inl v_now)), (o_trial, .inl (cI, 361, .inl u))])) (cc := cX10_flipSome) (maxL := 4) RX10 rfl (by decide +kernel) rfl rfl [(0, .ref o), (1, .int x1)] rfl ?_
  intro p e s m args below meth c A Qm C hret
  have H15 : ∀ (n15 : Nat) (x2 : Int32) (x3 : Int32) (v_trial : (Nat → Int32)), wX10_flipSome_15 fu v_now x1 Q n15 x2 x3 v_trial → G p l e rmX10_flipSome s m args below meth c D A 4 0 0 Qm [(o, .inr (10, [.ref o_text, .int v_length, .ref o_now, .ref o_trial, .ref o_diary, .int v_acts, .int v_next, .ref o_kept, .ref o_isKept, .ref o_knownPlace, .ref o_knownLetter, .int v_known, .long v_seed, .int v_wide, .int v_bits, .int v_parity, .int v_stops, .int v_idle, .int v_frames, .int v_failed, .int v_failedAt, .int v_margin, .ref o_letters, .ref o_starts, .int v_bestFrames, .ref o_bestLetters, .int v_alike, .int v_fitting, .ref o_deep, .ref o_worth, .int v_readLevel, .int v_readMany, .ref o_readTicks, .int v_part, .int v_ten])), (o_now, .inl (cI, 361, .inl v_now)), (o_trial, .inl (cI, 361, .inl v_trial))] [(0, .ref o), (1, .int x1), (2, .int x2), (3, .int x3)] 15 [] := by
    intro n15
    induction n15 with
    | zero => intro x2 x3 v_trial h; exact False.elim h
    | succ n15 ih15 =>
      have H85 : ∀ (x2 : Int32) (x3 : Int32) (v_trial : (Nat → Int32)), wX10_flipSome_85 fu v_now x1 Q (wX10_flipSome_15 fu v_now x1 Q n15) x2 x3 v_trial → G p l e rmX10_flipSome s m args below meth c D A 4 0 0 Qm [(o, .inr (10, [.ref o_text, .int v_length, .ref o_now, .ref o_trial, .ref o_diary, .int v_acts, .int v_next, .ref o_kept, .ref o_isKept, .ref o_knownPlace, .ref o_knownLetter, .int v_known, .long v_seed, .int v_wide, .int v_bits, .int v_parity, .int v_stops, .int v_idle, .int v_frames, .int v_failed, .int v_failedAt, .int v_margin, .ref o_letters, .ref o_starts, .int v_bestFrames, .ref o_bestLetters, .int v_alike, .int v_fitting, .ref o_deep, .ref o_worth, .int v_readLevel, .int v_readMany, .ref o_readTicks, .int v_part, .int v_ten])), (o_now, .inl (cI, 361, .inl v_now)), (o_trial, .inl (cI, 361, .inl v_trial))] [(0, .ref o), (1, .int x1), (2, .int x2), (3, .int x3)] 85 [] := by
        intro x2 x3 v_trial h
        unfold wX10_flipSome_85 at h
        refine g_iinc C 3 x3 (x3 + (1 : Int32)) [(3, .int (x3 + (1 : Int32))), (0, .ref o), (1, .int x1), (2, .int x2)] dX10_flipSome_85 rfl rfl (by decide) rfl ?_
        refine g_goto C 15 dX10_flipSome_88 (by decide) ?_
        refine g_lv [1, 2, 3, 0] rfl ?_
        exact ih15  x2 (x3 + (1 : Int32)) v_trial h
      have H81 : ∀ (x2 : Int32) (x3 : Int32) (k1 : Int32) (k2 : Int32) (v_trial : (Nat → Int32)), wX10_flipSome_81 fu v_now x1 Q (wX10_flipSome_15 fu v_now x1 Q n15) x2 x3 k1 k2 v_trial → G p l e rmX10_flipSome s m args below meth c D A 4 0 0 Qm [(o, .inr (10, [.ref o_text, .int v_length, .ref o_now, .ref o_trial, .ref o_diary, .int v_acts, .int v_next, .ref o_kept, .ref o_isKept, .ref o_knownPlace, .ref o_knownLetter, .int v_known, .long v_seed, .int v_wide, .int v_bits, .int v_parity, .int v_stops, .int v_idle, .int v_frames, .int v_failed, .int v_failedAt, .int v_margin, .ref o_letters, .ref o_starts, .int v_bestFrames, .ref o_bestLetters, .int v_alike, .int v_fitting, .ref o_deep, .ref o_worth, .int v_readLevel, .int v_readMany, .ref o_readTicks, .int v_part, .int v_ten])), (o_now, .inl (cI, 361, .inl v_now)), (o_trial, .inl (cI, 361, .inl v_trial))] [(0, .ref o), (1, .int x1), (2, .int x2), (3, .int x3)] 81 [.int k2, .int k1, .ref o_trial] := by
        intro x2 x3 k1 k2 v_trial h
        unfold wX10_flipSome_81 at h
        obtain ⟨hi10, h⟩ := h
        refine g_iast C 2 0 cI 361 v_trial rfl rfl hi10 dX10_flipSome_81 [(o, .inr (10, [.ref o_text, .int v_length, .ref o_now, .ref o_trial, .ref o_diary, .int v_acts, .int v_next, .ref o_kept, .ref o_isKept, .ref o_knownPlace, .ref o_knownLetter, .int v_known, .long v_seed, .int v_wide, .int v_bits, .int v_parity, .int v_stops, .int v_idle, .int v_frames, .int v_failed, .int v_failedAt, .int v_margin, .ref o_letters, .ref o_starts, .int v_bestFrames, .ref o_bestLetters, .int v_alike, .int v_fitting, .ref o_deep, .ref o_worth, .int v_readLevel, .int v_readMany, .ref o_readTicks, .int v_part, .int v_ten])), (o_now, .inl (cI, 361, .inl v_now)), (o_trial, .inl (cI, 361, .inl (upd v_trial (ix k1) k2)))] rfl ?_
        refine g_iinc C 2 x2 (x2 + (1 : Int32)) [(2, .int (x2 + (1 : Int32))), (0, .ref o), (1, .int x1), (3, .int x3)] dX10_flipSome_82 rfl rfl (by decide) rfl ?_
        refine g_lv [1, 2, 0, 3] rfl ?_
        exact H85  (x2 + (1 : Int32)) x3 (upd v_trial (ix k1) k2) h
      have H75 : ∀ (x2 : Int32) (x3 : Int32) (k1 : Int32) (v_trial : (Nat → Int32)), wX10_flipSome_75 fu v_now x1 Q (wX10_flipSome_15 fu v_now x1 Q n15) x2 x3 k1 v_trial → G p l e rmX10_flipSome s m args below meth c D A 4 0 0 Qm [(o, .inr (10, [.ref o_text, .int v_length, .ref o_now, .ref o_trial, .ref o_diary, .int v_acts, .int v_next, .ref o_kept, .ref o_isKept, .ref o_knownPlace, .ref o_knownLetter, .int v_known, .long v_seed, .int v_wide, .int v_bits, .int v_parity, .int v_stops, .int v_idle, .int v_frames, .int v_failed, .int v_failedAt, .int v_margin, .ref o_letters, .ref o_starts, .int v_bestFrames, .ref o_bestLetters, .int v_alike, .int v_fitting, .ref o_deep, .ref o_worth, .int v_readLevel, .int v_readMany, .ref o_readTicks, .int v_part, .int v_ten])), (o_now, .inl (cI, 361, .inl v_now)), (o_trial, .inl (cI, 361, .inl v_trial))] [(0, .ref o), (1, .int x1), (2, .int x2), (3, .int x3)] 75 [.int k1, .ref o_trial] := by
        intro x2 x3 k1 v_trial h
        unfold wX10_flipSome_75 at h
        refine g_aload_n C 0 0 o dX10_flipSome_75 rfl rfl ?_
        refine g_get C 10 ix_10 0 _ rfl rfl 2 (by decide) wm_128 rfl (.ref o_now) rfl dX10_flipSome_76 ?_
        refine g_iload_n C 3 3 x3 dX10_flipSome_79 rfl rfl ?_
        obtain ⟨hi9, h⟩ := h
        refine g_iald C 1 0 cI 361 v_now rfl rfl hi9 dX10_flipSome_80 ?_
        refine g_lv [0, 1, 2, 3] rfl ?_
        exact H81  x2 x3 k1 (v_now (ix x3)) v_trial h
      intro x2 x3 v_trial h
      unfold wX10_flipSome_15 at h
      refine g_iload_n C 3 3 x3 dX10_flipSome_15 rfl rfl ?_
      refine g_aload_n C 0 0 o dX10_flipSome_16 rfl rfl ?_
      refine g_get C 10 ix_10 0 _ rfl rfl 2 (by decide) wm_128 rfl (.ref o_now) rfl dX10_flipSome_17 ?_
      refine g_sipush C (360 : Int32) dX10_flipSome_20 rfl ?_
      refine g_iald C 1 0 cI 361 v_now rfl rfl (vp_in_dec rfl) dX10_flipSome_23 ?_
      refine g_icmp_ge C 91 dX10_flipSome_24 (by decide) (fun c2 => ?_) (fun c2 => ?_)
      · have h := wp_t c2 h
        exact hret v_trial _ _ _ dX10_flipSome_91 h rfl
      have h := wp_f c2 h
      refine g_aload_n C 0 0 o dX10_flipSome_27 rfl rfl ?_
      refine g_get C 10 ix_10 0 _ rfl rfl 2 (by decide) wm_128 rfl (.ref o_now) rfl dX10_flipSome_28 ?_
      refine g_iload_n C 3 3 x3 dX10_flipSome_31 rfl rfl ?_
      obtain ⟨hi3, h⟩ := h
      refine g_iald C 1 0 cI 361 v_now rfl rfl hi3 dX10_flipSome_32 ?_
      refine g_aload_n C 0 0 o dX10_flipSome_33 rfl rfl ?_
      refine g_get C 10 ix_10 0 _ rfl rfl 2 (by decide) wm_128 rfl (.ref o_now) rfl dX10_flipSome_34 ?_
      refine g_iload_n C 3 3 x3 dX10_flipSome_37 rfl rfl ?_
      refine g_iconst C (1 : Int32) dX10_flipSome_38 rfl ?_
      refine g_isub C dX10_flipSome_39 ?_
      obtain ⟨hi4, h⟩ := h
      refine g_iald C 1 0 cI 361 v_now rfl rfl hi4 dX10_flipSome_40 ?_
      refine g_icmp_eq C 85 dX10_flipSome_41 (by decide) (fun c5 => ?_) (fun c5 => ?_)
      · have h := wp_t c5 h
        refine g_lv [0, 1, 2, 3] rfl ?_
        exact H85  x2 x3 v_trial h
      have h := wp_f c5 h
      refine g_aload_n C 0 0 o dX10_flipSome_44 rfl rfl ?_
      refine g_get C 10 ix_10 0 _ rfl rfl 3 (by decide) wm_129 rfl (.ref o_trial) rfl dX10_flipSome_45 ?_
      refine g_iload_n C 3 3 x3 dX10_flipSome_48 rfl rfl ?_
      refine g_iload_n C 2 2 x2 dX10_flipSome_49 rfl rfl ?_
      refine g_bipush C (6 : Int32) dX10_flipSome_50 rfl ?_
      refine g_icmp_ge C 75 dX10_flipSome_52 (by decide) (fun c6 => ?_) (fun c6 => ?_)
      · have h := wp_t c6 h
        refine g_lv [0, 1, 2, 3] rfl ?_
        exact H75  x2 x3 x3 v_trial h
      have h := wp_f c6 h
      refine g_iload_n C 1 1 x1 dX10_flipSome_55 rfl rfl ?_
      refine g_iload_n C 2 2 x2 dX10_flipSome_56 rfl rfl ?_
      refine g_ishr C dX10_flipSome_57 ?_
      refine g_iconst C (1 : Int32) dX10_flipSome_58 rfl ?_
      refine g_iand C dX10_flipSome_59 ?_
      refine g_iconst C (1 : Int32) dX10_flipSome_60 rfl ?_
      refine g_icmp_ne C 75 dX10_flipSome_61 (by decide) (fun c7 => ?_) (fun c7 => ?_)
      · have h := wp_f c7 h
        refine g_lv [0, 1, 2, 3] rfl ?_
        exact H75  x2 x3 x3 v_trial h
      have h := wp_t c7 h
      refine g_iconst C (1 : Int32) dX10_flipSome_64 rfl ?_
      refine g_aload_n C 0 0 o dX10_flipSome_65 rfl rfl ?_
      refine g_get C 10 ix_10 0 _ rfl rfl 2 (by decide) wm_128 rfl (.ref o_now) rfl dX10_flipSome_66 ?_
      refine g_iload_n C 3 3 x3 dX10_flipSome_69 rfl rfl ?_
      obtain ⟨hi8, h⟩ := h
      refine g_iald C 1 0 cI 361 v_now rfl rfl hi8 dX10_flipSome_70 ?_
      refine g_isub C dX10_flipSome_71 ?_
      refine g_goto C 81 dX10_flipSome_72 (by decide) ?_
      refine g_lv [0, 1, 2, 3] rfl ?_
      exact H81  x2 x3 x3 ((1 : Int32) - (v_now (ix x3))) v_trial h
  unfold wp_X10_flipSome at h
  refine g_iconst C (0 : Int32) dX10_flipSome_0 rfl ?_
  refine g_istore_n C [(2, .int (0 : Int32)), (0, .ref o), (1, .int x1)] dX10_flipSome_1 rfl (by decide) rfl ?_
  refine g_aload_n C 0 1 o dX10_flipSome_2 rfl rfl ?_
  refine g_get C 10 ix_10 0 _ rfl rfl 2 (by decide) wm_128 rfl (.ref o_now) rfl dX10_flipSome_3 ?_
  refine g_aload_n C 0 1 o dX10_flipSome_6 rfl rfl ?_
  refine g_get C 10 ix_10 0 _ rfl rfl 3 (by decide) wm_129 rfl (.ref o_trial) rfl dX10_flipSome_7 ?_
  refine g_callSv (As := [.ref o_now, .ref o_trial]) (rest := []) C (c_X10_copy l D cI cJ cZ cW o_now o_trial v_now v_trial fu _ h) 2 gd_X10_237 rfl rfl rfl (by decide +kernel) ⟨Nat.le_of_ble_eq_true rfl, Nat.le_of_ble_eq_true rfl⟩ ⟨Nat.le_of_ble_eq_true rfl, Nat.le_of_ble_eq_true rfl⟩ rfl rfl (Nat.le_of_ble_eq_true rfl) [1, 2] [none, some 0, some 1] rfl rfl rfl dX10_flipSome_10 (fun u h => ?_)
  obtain ⟨z1, rfl⟩ : ∃ z, z = u := ⟨_, rfl⟩
  refine ⟨[(o, .inr (10, [.ref o_text, .int v_length, .ref o_now, .ref o_trial, .ref o_diary, .int v_acts, .int v_next, .ref o_kept, .ref o_isKept, .ref o_knownPlace, .ref o_knownLetter, .int v_known, .long v_seed, .int v_wide, .int v_bits, .int v_parity, .int v_stops, .int v_idle, .int v_frames, .int v_failed, .int v_failedAt, .int v_margin, .ref o_letters, .ref o_starts, .int v_bestFrames, .ref o_bestLetters, .int v_alike, .int v_fitting, .ref o_deep, .ref o_worth, .int v_readLevel, .int v_readMany, .ref o_readTicks, .int v_part, .int v_ten])), (o_now, .inl (cI, 361, .inl v_now)), (o_trial, .inl (cI, 361, .inl z1))], rfl, rfl, rfl, ?_⟩
  refine g_iconst C (1 : Int32) dX10_flipSome_13 rfl ?_
  refine g_istore_n C [(3, .int (1 : Int32)), (2, .int (0 : Int32)), (0, .ref o), (1, .int x1)] dX10_flipSome_14 rfl (by decide) rfl ?_
  refine g_lv [2, 3, 1, 0] rfl ?_
  exact H15 fu  (0 : Int32) (1 : Int32) z1 h
abbrev rmX10_chance : Room := { frames := 4, cells := 0, slots := 0, locals := 97 }
def wX10_chance_126 (fu : Nat) (v_deep : (Nat → Int32)) (v_now : (Nat → Int32)) (x1 : Int32) (x2 : Int32) (x3 : Int32) (x4 : Int32) (Q : Int32 → Int32 → Int32 → Int32 → Int32 → Int32 → Int32 → Int32 → Int32 → Int32 → (Nat → Int32) → (Nat → Int32) → (Nat → Int32) → Prop) (K65 : Int32 → Int32 → Int32 → Int32 → Int32 → Int32 → Int32 → Int32 → Int32 → Int32 → Int32 → Int32 → (Nat → Int32) → (Nat → Int32) → (Nat → Int32) → Prop) (x5 : Int32) (x7 : Int32) (k0 : Int32) (k1 : Int32) (v_bits : Int32) (v_failed : Int32) (v_failedAt : Int32) (v_frames : Int32) (v_idle : Int32) (v_margin : Int32) (v_parity : Int32) (v_stops : Int32) (v_wide : Int32) (v_letters : (Nat → Int32)) (v_starts : (Nat → Int32)) (v_trial : (Nat → Int32)) : Prop := (∀ y31 : Int32, y31 = (k0 + k1) → K65 x5 y31 (x7 + (1 : Int32)) v_bits v_failed v_failedAt v_frames v_idle v_margin v_parity v_stops v_wide v_letters v_starts v_trial)
def wX10_chance_65 (fu : Nat) (v_deep : (Nat → Int32)) (v_now : (Nat → Int32)) (x1 : Int32) (x2 : Int32) (x3 : Int32) (x4 : Int32) (Q : Int32 → Int32 → Int32 → Int32 → Int32 → Int32 → Int32 → Int32 → Int32 → Int32 → (Nat → Int32) → (Nat → Int32) → (Nat → Int32) → Prop) : Nat → Int32 → Int32 → Int32 → Int32 → Int32 → Int32 → Int32 → Int32 → Int32 → Int32 → Int32 → Int32 → (Nat → Int32) → (Nat → Int32) → (Nat → Int32) → Prop
  | 0, _, _, _, _, _, _, _, _, _, _, _, _, _, _, _ => False
  | n0 + 1, x5, x6, x7, v_bits, v_failed, v_failedAt, v_frames, v_idle, v_margin, v_parity, v_stops, v_wide, v_letters, v_starts, v_trial => (if (shl (1 : Int32) x5) ≤ x7 then wp_X10_power fu (10 : Int32) x5 (fun (r16 : Int32) => wp_X10_fraction fu x6 r16 x4 (fun (r17 : Int32) => Q r17 v_bits v_failed v_failedAt v_frames v_idle v_margin v_parity v_stops v_wide v_letters v_starts v_trial)) else wp_X10_flipSome fu v_now x7 v_trial (fun (z18 : (Nat → Int32)) => wp_X10_read fu v_bits v_idle v_parity v_stops v_wide v_deep z18 v_failed v_failedAt v_frames v_margin v_letters v_starts (fun (z19 : Int32) (z20 : Int32) (z21 : Int32) (z22 : Int32) (z23 : (Nat → Int32)) (z24 : (Nat → Int32)) => wp_X10_fits fu z19 z21 (fun (r25 : Int32) => (if r25 = 0 then wX10_chance_126 fu v_deep v_now x1 x2 x3 x4 Q (wX10_chance_65 fu v_deep v_now x1 x2 x3 x4 Q n0) x5 x7 x6 (0 : Int32) v_bits z19 z20 z21 v_idle z22 v_parity v_stops v_wide z23 z24 z18 else wp_X10_ones fu x7 (fun (r27 : Int32) => wp_X10_power fu x3 r27 (fun (r28 : Int32) => wp_X10_ones fu x7 (fun (r29 : Int32) => wp_X10_power fu ((10 : Int32) - x3) (x5 - r29) (fun (r30 : Int32) => wX10_chance_126 fu v_deep v_now x1 x2 x3 x4 Q (wX10_chance_65 fu v_deep v_now x1 x2 x3 x4 Q n0) x5 x7 x6 (r28 * r30) v_bits z19 z20 z21 v_idle z22 v_parity v_stops v_wide z23 z24 z18)))))))))
def wX10_chance_57 (fu : Nat) (v_deep : (Nat → Int32)) (v_now : (Nat → Int32)) (x1 : Int32) (x2 : Int32) (x3 : Int32) (x4 : Int32) (Q : Int32 → Int32 → Int32 → Int32 → Int32 → Int32 → Int32 → Int32 → Int32 → Int32 → (Nat → Int32) → (Nat → Int32) → (Nat → Int32) → Prop) (k0 : Int32) (v_bits : Int32) (v_failed : Int32) (v_failedAt : Int32) (v_frames : Int32) (v_idle : Int32) (v_margin : Int32) (v_parity : Int32) (v_stops : Int32) (v_wide : Int32) (v_letters : (Nat → Int32)) (v_starts : (Nat → Int32)) (v_trial : (Nat → Int32)) : Prop := wX10_chance_65 fu v_deep v_now x1 x2 x3 x4 Q fu k0 (0 : Int32) (0 : Int32) v_bits v_failed v_failedAt v_frames v_idle v_margin v_parity v_stops v_wide v_letters v_starts v_trial
def wp_X10_chance (fu : Nat) (v_deep : (Nat → Int32)) (v_now : (Nat → Int32)) (x1 : Int32) (x2 : Int32) (x3 : Int32) (x4 : Int32) (v_bits : Int32) (v_failed : Int32) (v_failedAt : Int32) (v_frames : Int32) (v_idle : Int32) (v_margin : Int32) (v_parity : Int32) (v_stops : Int32) (v_wide : Int32) (v_letters : (Nat → Int32)) (v_starts : (Nat → Int32)) (v_trial : (Nat → Int32)) (Q : Int32 → Int32 → Int32 → Int32 → Int32 → Int32 → Int32 → Int32 → Int32 → Int32 → (Nat → Int32) → (Nat → Int32) → (Nat → Int32) → Prop) : Prop := wp_X10_layCode fu x1 v_bits v_idle v_parity v_stops v_wide (fun (r6 : Int32) (z1 : Int32) (z2 : Int32) (z3 : Int32) (z4 : Int32) (z5 : Int32) => (if r6 = 0 then Q (-2 : Int32) z1 v_failed v_failedAt v_frames z2 v_margin z3 z4 z5 v_letters v_starts v_trial else wp_X10_in fu (Int32.toInt64 x2) (0 : Int64) (6 : Int64) (fun (r8 : Int32) => (if r8 = 0 then Q (-2 : Int32) z1 v_failed v_failedAt v_frames z2 v_margin z3 z4 z5 v_letters v_starts v_trial else wp_X10_in fu (Int32.toInt64 x3) (0 : Int64) (10 : Int64) (fun (r10 : Int32) => (if r10 = 0 then Q (-2 : Int32) z1 v_failed v_failedAt v_frames z2 v_margin z3 z4 z5 v_letters v_starts v_trial else wp_X10_edges fu v_now (fun (r12 : Int32) => (if x2 ≤ r12 then wX10_chance_57 fu v_deep v_now x1 x2 x3 x4 Q x2 z1 v_failed v_failedAt v_frames z2 v_margin z3 z4 z5 v_letters v_starts v_trial else wp_X10_edges fu v_now (fun (r14 : Int32) => wX10_chance_57 fu v_deep v_now x1 x2 x3 x4 Q r14 z1 v_failed v_failedAt v_frames z2 v_margin z3 z4 z5 v_letters v_starts v_trial)))))))))
set_option maxHeartbeats 4000000 in
set_option maxRecDepth 100000 in
theorem c_X10_chance (l : Launch) (D : va_G) (cI cJ cZ cW : ClassId) (o o_text o_now o_trial o_diary o_kept o_isKept o_knownPlace o_knownLetter o_letters o_starts o_bestLetters o_deep o_worth o_readTicks : Nat) (v_length : Int32) (v_acts : Int32) (v_next : Int32) (v_known : Int32) (v_seed : Int64) (v_wide : Int32) (v_bits : Int32) (v_parity : Int32) (v_stops : Int32) (v_idle : Int32) (v_frames : Int32) (v_failed : Int32) (v_failedAt : Int32) (v_margin : Int32) (v_bestFrames : Int32) (v_alike : Int32) (v_fitting : Int32) (v_readLevel : Int32) (v_readMany : Int32) (v_part : Int32) (v_ten : Int32) (v_deep : (Nat → Int32)) (v_letters : (Nat → Int32)) (v_now : (Nat → Int32)) (v_starts : (Nat → Int32)) (v_trial : (Nat → Int32)) (x1 : Int32) (x2 : Int32) (x3 : Int32) (x4 : Int32) (fu : Nat) (Q : Int32 → Int32 → Int32 → Int32 → Int32 → Int32 → Int32 → Int32 → Int32 → Int32 → (Nat → Int32) → (Nat → Int32) → (Nat → Int32) → Prop) (h : wp_X10_chance fu v_deep v_now x1 x2 x3 x4 v_bits v_failed v_failedAt v_frames v_idle v_margin v_parity v_stops v_wide v_letters v_starts v_trial Q) : CtI l yX10_chance wkX10_chance rmX10_chance D (tys4 cI cJ cZ cW) [.ref o, .int x1, .int x2, .int x3, .int x4] [(o, .inr (10, [.ref o_text, .int v_length, .ref o_now, .ref o_trial, .ref o_diary, .int v_acts, .int v_next, .ref o_kept, .ref o_isKept, .ref o_knownPlace, .ref o_knownLetter, .int v_known, .long v_seed, .int v_wide, .int v_bits, .int v_parity, .int v_stops, .int v_idle, .int v_frames, .int v_failed, .int v_failedAt, .int v_margin, .ref o_letters, .ref o_starts, .int v_bestFrames, .ref o_bestLetters, .int v_alike, .int v_fitting, .ref o_deep, .ref o_worth, .int v_readLevel, .int v_readMany, .ref o_readTicks, .int v_part, .int v_ten])), (o_deep, .inl (cI, 360, .inl v_deep)), (o_letters, .inl (cI, 64, .inl v_letters)), (o_now, .inl (cI, 361, .inl v_now)), (o_starts, .inl (cI, 64, .inl v_starts)), (o_trial, .inl (cI, 361, .inl v_trial))] (fun (r : Int32) (u : Int32 × Int32 × Int32 × Int32 × Int32 × Int32 × Int32 × Int32 × Int32 × (Nat → Int32) × (Nat → Int32) × (Nat → Int32)) => Q r u.1 u.2.1 u.2.2.1 u.2.2.2.1 u.2.2.2.2.1 u.2.2.2.2.2.1 u.2.2.2.2.2.2.1 u.2.2.2.2.2.2.2.1 u.2.2.2.2.2.2.2.2.1 u.2.2.2.2.2.2.2.2.2.1 u.2.2.2.2.2.2.2.2.2.2.1 u.2.2.2.2.2.2.2.2.2.2.2) (fun (u : Int32 × Int32 × Int32 × Int32 × Int32 × Int32 × Int32 × Int32 × Int32 × (Nat → Int32) × (Nat → Int32) × (Nat → Int32)) => [(o, .inr (10, [.ref o_text, .int v_length, .ref o_now, .ref o_trial, .ref o_diary, .int v_acts, .int v_next, .ref o_kept, .ref o_isKept, .ref o_knownPlace, .ref o_knownLetter, .int v_known, .long v_seed, .int u.2.2.2.2.2.2.2.2.1, .int u.1, .int u.2.2.2.2.2.2.1, .int u.2.2.2.2.2.2.2.1, .int u.2.2.2.2.1, .int u.2.2.2.1, .int u.2.1, .int u.2.2.1, .int u.2.2.2.2.2.1, .ref o_letters, .ref o_starts, .int v_bestFrames, .ref o_bestLetters, .int v_alike, .int v_fitting, .ref o_deep, .ref o_worth, .int v_readLevel, .int v_readMany, .ref o_readTicks, .int v_part, .int v_ten])), (o_deep, .inl (cI, 360, .inl v_deep)), (o_letters, .inl (cI, 64, .inl u.2.2.2.2.2.2.2.2.2.1)), (o_now, .inl (cI, 361, .inl v_now)), (o_starts, .inl (cI, 64, .inl u.2.2.2.2.2.2.2.2.2.2.1)), (o_trial, .inl (cI, 361, .inl u.2.2.2.2.2.2.2.2.2.2.2))]) := by
  refine CtI.of (S := Int32 × Int32 × Int32 × Int32 × Int32 × Int32 × Int32 × Int32 × Int32 × (Nat → Int32) × (Nat → Int32) × (Nat → Int32)) (y := yX10_chance) (Tc := wkX10_chance) (rm := rmX10_chance) (D := D) (tys := tys4 cI cJ cZ cW) (av := [.ref o, .int x1, .int x2, .int x3, .int x4]) (wc := [(o, .inr (10, [.ref o_text, .int v_length, .ref o_now, .ref o_trial, .ref o_diary, .int v_acts, .int v_next, .ref o_kept, .ref o_isKept, .ref o_knownPlace, .ref o_knownLetter, .int v_known, .long v_seed, .int v_wide, .int v_bits, .int v_parity, .int v_stops, .int v_idle, .int v_frames, .int v_failed, .int v_failedAt, .int v_margin, .ref o_letters, .ref o_starts, .int v_bestFrames, .ref o_bestLetters, .int v_alike, .int v_fitting, .ref o_deep, .ref o_worth, .int v_readLevel, .int v_readMany, .ref o_readTicks, .int v_part, .int v_ten])), (o_deep, .inl (cI, 360, .inl v_deep)), (o_letters, .inl (cI, 64, .inl v_letters)), (o_now, .inl (cI, 361, .inl v_now)), (o_starts, .inl (cI, 64, .inl v_starts)), (o_trial, .inl (cI, 361, .inl v_trial))]) (post := (fun (r : Int32) (u : Int32 × Int32 × Int32 × Int32 × Int32 × Int32 × Int32 × Int32 × Int32 × (Nat → Int32) × (Nat → Int32) × (Nat → Int32)) => Q r u.1 u.2.1 u.2.2.1 u.2.2.2.1 u.2.2.2.2.1 u.2.2.2.2.2.1 u.2.2.2.2.2.2.1 u.2.2.2.2.2.2.2.1 u.2.2.2.2.2.2.2.2.1 u.2.2.2.2.2.2.2.2.2.1 u.2.2.2.2.2.2.2.2.2.2.1 u.2.2.2.2.2.2.2.2.2.2.2)) (w1 := (fun (u : Int32 × Int32 × Int32 × Int32 × Int32 × Int32 × Int32 × Int32 × Int32 × (Nat → Int32) × (Nat → Int32) × (Nat → Int32)) => [(o, .inr (10, [.ref o_text, .int v_length, .ref o_now, .ref o_trial, .ref o_diary, .int v_acts, .int v_next, .ref o_kept, .ref o_isKept, .ref o_knownPlace, .ref o_knownLetter, .int v_known, .long v_seed, .int u.2.2.2.2.2.2.2.2.1, .int u.1, .int u.2.2.2.2.2.2.1, .int u.2.2.2.2.2.2.2.1, .int u.2.2.2.2.1, .int u.2.2.2.1, .int u.2.1, .int u.2.2.1, .int u.2.2.2.2.2.1, .ref o_letters, .ref o_starts, .int v_bestFrames, .ref o_bestLetters, .int v_alike, .int v_fitting, .ref o_deep, .ref o_worth, .int v_readLevel, .int v_readMany, .ref o_readTicks, .int v_part, .int v_ten])), (o_deep, .inl (cI, 360, .inl v_deep)), (o_letters, .inl (cI, 64, .inl u.2.2.2.2.2.2.2.2.2.1)), (o_now, .inl (cI, 361, .inl v_now)), (o_starts, .inl (cI, 64, .inl u.2.2.2.2.2.2.2.2.2.2.1)), (o_trial, .inl (cI, 361, .inl u.2.2.2.2.2.2.2.2.2.2.2))])) (cc := cX10_chance) (maxL := 8) RX10 rfl (by decide +kernel) rfl rfl [(0, .ref o), (1, .int x1), (2, .int x2), (3, .int x3), (4, .int x4)] rfl ?_
  intro p e s m args below meth c A Qm C hret
  have H65 : ∀ (n65 : Nat) (x5 : Int32) (x6 : Int32) (x7 : Int32) (v_bits : Int32) (v_failed : Int32) (v_failedAt : Int32) (v_frames : Int32) (v_idle : Int32) (v_margin : Int32) (v_parity : Int32) (v_stops : Int32) (v_wide : Int32) (v_letters : (Nat → Int32)) (v_starts : (Nat → Int32)) (v_trial : (Nat → Int32)), wX10_chance_65 fu v_deep v_now x1 x2 x3 x4 Q n65 x5 x6 x7 v_bits v_failed v_failedAt v_frames v_idle v_margin v_parity v_stops v_wide v_letters v_starts v_trial → G p l e rmX10_chance s m args below meth c D A 8 0 0 Qm [(o, .inr (10, [.ref o_text, .int v_length, .ref o_now, .ref o_trial, .ref o_diary, .int v_acts, .int v_next, .ref o_kept, .ref o_isKept, .ref o_knownPlace, .ref o_knownLetter, .int v_known, .long v_seed, .int v_wide, .int v_bits, .int v_parity, .int v_stops, .int v_idle, .int v_frames, .int v_failed, .int v_failedAt, .int v_margin, .ref o_letters, .ref o_starts, .int v_bestFrames, .ref o_bestLetters, .int v_alike, .int v_fitting, .ref o_deep, .ref o_worth, .int v_readLevel, .int v_readMany, .ref o_readTicks, .int v_part, .int v_ten])), (o_deep, .inl (cI, 360, .inl v_deep)), (o_letters, .inl (cI, 64, .inl v_letters)), (o_now, .inl (cI, 361, .inl v_now)), (o_starts, .inl (cI, 64, .inl v_starts)), (o_trial, .inl (cI, 361, .inl v_trial))] [(0, .ref o), (3, .int x3), (4, .int x4), (5, .int x5), (6, .int x6), (7, .int x7)] 65 [] := by
    intro n65
    induction n65 with
    | zero => intro x5 x6 x7 v_bits v_failed v_failedAt v_frames v_idle v_margin v_parity v_stops v_wide v_letters v_starts v_trial h; exact False.elim h
    | succ n65 ih65 =>
      have H126 : ∀ (x5 : Int32) (x7 : Int32) (k0 : Int32) (k1 : Int32) (v_bits : Int32) (v_failed : Int32) (v_failedAt : Int32) (v_frames : Int32) (v_idle : Int32) (v_margin : Int32) (v_parity : Int32) (v_stops : Int32) (v_wide : Int32) (v_letters : (Nat → Int32)) (v_starts : (Nat → Int32)) (v_trial : (Nat → Int32)), wX10_chance_126 fu v_deep v_now x1 x2 x3 x4 Q (wX10_chance_65 fu v_deep v_now x1 x2 x3 x4 Q n65) x5 x7 k0 k1 v_bits v_failed v_failedAt v_frames v_idle v_margin v_parity v_stops v_wide v_letters v_starts v_trial → G p l e rmX10_chance s m args below meth c D A 8 0 0 Qm [(o, .inr (10, [.ref o_text, .int v_length, .ref o_now, .ref o_trial, .ref o_diary, .int v_acts, .int v_next, .ref o_kept, .ref o_isKept, .ref o_knownPlace, .ref o_knownLetter, .int v_known, .long v_seed, .int v_wide, .int v_bits, .int v_parity, .int v_stops, .int v_idle, .int v_frames, .int v_failed, .int v_failedAt, .int v_margin, .ref o_letters, .ref o_starts, .int v_bestFrames, .ref o_bestLetters, .int v_alike, .int v_fitting, .ref o_deep, .ref o_worth, .int v_readLevel, .int v_readMany, .ref o_readTicks, .int v_part, .int v_ten])), (o_deep, .inl (cI, 360, .inl v_deep)), (o_letters, .inl (cI, 64, .inl v_letters)), (o_now, .inl (cI, 361, .inl v_now)), (o_starts, .inl (cI, 64, .inl v_starts)), (o_trial, .inl (cI, 361, .inl v_trial))] [(0, .ref o), (3, .int x3), (4, .int x4), (5, .int x5), (7, .int x7)] 126 [.int k1, .int k0] := by
        intro x5 x7 k0 k1 v_bits v_failed v_failedAt v_frames v_idle v_margin v_parity v_stops v_wide v_letters v_starts v_trial h
        unfold wX10_chance_126 at h
        refine g_iadd C dX10_chance_126 ?_
        refine g_topi (fun y31 ey31 => ?_)
        have h := h y31 ey31
        refine g_istore C [(6, .int y31), (0, .ref o), (3, .int x3), (4, .int x4), (5, .int x5), (7, .int x7)] dX10_chance_127 (by decide) rfl ?_
        refine g_iinc C 5 x7 (x7 + (1 : Int32)) [(7, .int (x7 + (1 : Int32))), (6, .int y31), (0, .ref o), (3, .int x3), (4, .int x4), (5, .int x5)] dX10_chance_129 rfl rfl (by decide) rfl ?_
        refine g_goto C 65 dX10_chance_132 (by decide) ?_
        refine g_lv [2, 3, 4, 5, 1, 0] rfl ?_
        exact ih65  x5 y31 (x7 + (1 : Int32)) v_bits v_failed v_failedAt v_frames v_idle v_margin v_parity v_stops v_wide v_letters v_starts v_trial h
      intro x5 x6 x7 v_bits v_failed v_failedAt v_frames v_idle v_margin v_parity v_stops v_wide v_letters v_starts v_trial h
      unfold wX10_chance_65 at h
      refine g_iload C 7 5 x7 dX10_chance_65 rfl ?_
      refine g_iconst C (1 : Int32) dX10_chance_67 rfl ?_
      refine g_iload C 5 3 x5 dX10_chance_68 rfl ?_
      refine g_ishl C dX10_chance_70 ?_
      refine g_icmp_ge C 135 dX10_chance_71 (by decide) (fun c15 => ?_) (fun c15 => ?_)
      · have h := wp_t c15 h
        refine g_iload C 6 4 x6 dX10_chance_135 rfl ?_
        refine g_bipush C (10 : Int32) dX10_chance_137 rfl ?_
        refine g_iload C 5 3 x5 dX10_chance_139 rfl ?_
        refine g_callSi0 (As := [.int (10 : Int32), .int x5]) (rest := [.int x6]) C (c_X10_power l D cI cJ cZ cW (10 : Int32) x5 fu _ h) 2 gd_X10_263 rfl rfl rfl (by decide +kernel) ⟨Nat.le_of_ble_eq_true rfl, Nat.le_of_ble_eq_true rfl⟩ ⟨Nat.le_of_ble_eq_true rfl, Nat.le_of_ble_eq_true rfl⟩ rfl rfl (Nat.le_of_ble_eq_true rfl) [] rfl rfl dX10_chance_141 (fun r16 h => ?_)
        refine g_iload C 4 2 x4 dX10_chance_144 rfl ?_
        refine g_callSi0 (As := [.int x6, .int r16, .int x4]) (rest := []) C (c_X10_fraction l D cI cJ cZ cW x6 r16 x4 fu _ h) 3 gd_X10_251 rfl rfl rfl (by decide +kernel) ⟨Nat.le_of_ble_eq_true rfl, Nat.le_of_ble_eq_true rfl⟩ ⟨Nat.le_of_ble_eq_true rfl, Nat.le_of_ble_eq_true rfl⟩ rfl rfl (Nat.le_of_ble_eq_true rfl) [] rfl rfl dX10_chance_146 (fun r17 h => ?_)
        exact hret _ (v_bits, v_failed, v_failedAt, v_frames, v_idle, v_margin, v_parity, v_stops, v_wide, v_letters, v_starts, v_trial) _ _ _ dX10_chance_149 h rfl
      have h := wp_f c15 h
      refine g_aload_n C 0 0 o dX10_chance_74 rfl rfl ?_
      refine g_iload C 7 5 x7 dX10_chance_75 rfl ?_
      refine g_callVv (As := [.int x7]) (rest := []) C (c_X10_flipSome l D cI cJ cZ cW o o_text o_now o_trial o_diary o_kept o_isKept o_knownPlace o_knownLetter o_letters o_starts o_bestLetters o_deep o_worth o_readTicks v_length v_acts v_next v_known v_seed v_wide v_bits v_parity v_stops v_idle v_frames v_failed v_failedAt v_margin v_bestFrames v_alike v_fitting v_readLevel v_readMany v_part v_ten v_now v_trial x7 fu _ h) 1 gd_X10_259 rfl rfl rfl (by decide +kernel) ⟨Nat.le_of_ble_eq_true rfl, Nat.le_of_ble_eq_true rfl⟩ ⟨Nat.le_of_ble_eq_true rfl, Nat.le_of_ble_eq_true rfl⟩ 10 0 rfl rfl rfl rfl (Nat.le_of_ble_eq_true rfl) [0, 3, 5] [some 0, none, none, some 1, none, some 2] rfl rfl rfl dX10_chance_77 (fun u h => ?_)
      obtain ⟨z18, rfl⟩ : ∃ z, z = u := ⟨_, rfl⟩
      refine ⟨[(o, .inr (10, [.ref o_text, .int v_length, .ref o_now, .ref o_trial, .ref o_diary, .int v_acts, .int v_next, .ref o_kept, .ref o_isKept, .ref o_knownPlace, .ref o_knownLetter, .int v_known, .long v_seed, .int v_wide, .int v_bits, .int v_parity, .int v_stops, .int v_idle, .int v_frames, .int v_failed, .int v_failedAt, .int v_margin, .ref o_letters, .ref o_starts, .int v_bestFrames, .ref o_bestLetters, .int v_alike, .int v_fitting, .ref o_deep, .ref o_worth, .int v_readLevel, .int v_readMany, .ref o_readTicks, .int v_part, .int v_ten])), (o_deep, .inl (cI, 360, .inl v_deep)), (o_letters, .inl (cI, 64, .inl v_letters)), (o_now, .inl (cI, 361, .inl v_now)), (o_starts, .inl (cI, 64, .inl v_starts)), (o_trial, .inl (cI, 361, .inl z18))], rfl, rfl, rfl, ?_⟩
      refine g_aload_n C 0 0 o dX10_chance_80 rfl rfl ?_
      refine g_aload_n C 0 0 o dX10_chance_81 rfl rfl ?_
      refine g_get C 10 ix_10 0 _ rfl rfl 3 (by decide) wm_129 rfl (.ref o_trial) rfl dX10_chance_82 ?_
      refine g_callVv (As := [.ref o_trial]) (rest := []) C (c_X10_read l D cI cJ cZ cW o o_text o_now o_trial o_diary o_kept o_isKept o_knownPlace o_knownLetter o_letters o_starts o_bestLetters o_deep o_worth o_readTicks o_trial v_length v_acts v_next v_known v_seed v_wide v_bits v_parity v_stops v_idle v_frames v_failed v_failedAt v_margin v_bestFrames v_alike v_fitting v_readLevel v_readMany v_part v_ten v_deep v_letters v_starts z18 fu _ h) 1 gd_X10_155 rfl rfl rfl (by decide +kernel) ⟨Nat.le_of_ble_eq_true rfl, Nat.le_of_ble_eq_true rfl⟩ ⟨Nat.le_of_ble_eq_true rfl, Nat.le_of_ble_eq_true rfl⟩ 10 0 rfl rfl rfl rfl (Nat.le_of_ble_eq_true rfl) [0, 1, 2, 4, 5] [some 0, some 1, some 2, none, some 3, some 4] rfl rfl rfl dX10_chance_85 (fun u h => ?_)
      obtain ⟨z19, z20, z21, z22, z23, z24⟩ := u
      refine ⟨[(o, .inr (10, [.ref o_text, .int v_length, .ref o_now, .ref o_trial, .ref o_diary, .int v_acts, .int v_next, .ref o_kept, .ref o_isKept, .ref o_knownPlace, .ref o_knownLetter, .int v_known, .long v_seed, .int v_wide, .int v_bits, .int v_parity, .int v_stops, .int v_idle, .int z21, .int z19, .int z20, .int z22, .ref o_letters, .ref o_starts, .int v_bestFrames, .ref o_bestLetters, .int v_alike, .int v_fitting, .ref o_deep, .ref o_worth, .int v_readLevel, .int v_readMany, .ref o_readTicks, .int v_part, .int v_ten])), (o_deep, .inl (cI, 360, .inl v_deep)), (o_letters, .inl (cI, 64, .inl z23)), (o_now, .inl (cI, 361, .inl v_now)), (o_starts, .inl (cI, 64, .inl z24)), (o_trial, .inl (cI, 361, .inl z18))], rfl, rfl, rfl, ?_⟩
      refine g_iload C 6 4 x6 dX10_chance_88 rfl ?_
      refine g_aload_n C 0 0 o dX10_chance_90 rfl rfl ?_
      refine g_callVi0 (As := []) (rest := [.int x6]) C (c_X10_fits l D cI cJ cZ cW o o_text o_now o_trial o_diary o_kept o_isKept o_knownPlace o_knownLetter o_letters o_starts o_bestLetters o_deep o_worth o_readTicks v_length v_acts v_next v_known v_seed v_wide v_bits v_parity v_stops v_idle z21 z19 z20 z22 v_bestFrames v_alike v_fitting v_readLevel v_readMany v_part v_ten fu _ h) 0 gd_X10_158 rfl rfl rfl (by decide +kernel) ⟨Nat.le_of_ble_eq_true rfl, Nat.le_of_ble_eq_true rfl⟩ ⟨Nat.le_of_ble_eq_true rfl, Nat.le_of_ble_eq_true rfl⟩ 10 0 rfl rfl rfl rfl (Nat.le_of_ble_eq_true rfl) [0] rfl rfl dX10_chance_91 (fun r25 h => ?_)
      obtain ⟨hzr25, h⟩ := h
      refine g_if_eq C 125 dX10_chance_94 (by decide) (fun c26 => ?_) (fun c26 => ?_)
      · have h := wp_t c26 h
        refine g_iconst C (0 : Int32) dX10_chance_125 rfl ?_
        refine g_lv [0, 1, 2, 3, 5] rfl ?_
        exact H126  x5 x7 x6 (0 : Int32) v_bits z19 z20 z21 v_idle z22 v_parity v_stops v_wide z23 z24 z18 h
      have h := wp_f c26 h
      refine g_iload_n C 3 1 x3 dX10_chance_97 rfl rfl ?_
      refine g_iload C 7 5 x7 dX10_chance_98 rfl ?_
      refine g_callSi0 (As := [.int x7]) (rest := [.int x3, .int x6]) C (c_X10_ones l D cI cJ cZ cW x7 fu _ h) 1 gd_X10_245 rfl rfl rfl (by decide +kernel) ⟨Nat.le_of_ble_eq_true rfl, Nat.le_of_ble_eq_true rfl⟩ ⟨Nat.le_of_ble_eq_true rfl, Nat.le_of_ble_eq_true rfl⟩ rfl rfl (Nat.le_of_ble_eq_true rfl) [] rfl rfl dX10_chance_100 (fun r27 h => ?_)
      refine g_callSi0 (As := [.int x3, .int r27]) (rest := [.int x6]) C (c_X10_power l D cI cJ cZ cW x3 r27 fu _ h) 2 gd_X10_263 rfl rfl rfl (by decide +kernel) ⟨Nat.le_of_ble_eq_true rfl, Nat.le_of_ble_eq_true rfl⟩ ⟨Nat.le_of_ble_eq_true rfl, Nat.le_of_ble_eq_true rfl⟩ rfl rfl (Nat.le_of_ble_eq_true rfl) [] rfl rfl dX10_chance_103 (fun r28 h => ?_)
      refine g_bipush C (10 : Int32) dX10_chance_106 rfl ?_
      refine g_iload_n C 3 1 x3 dX10_chance_108 rfl rfl ?_
      refine g_isub C dX10_chance_109 ?_
      refine g_iload C 5 3 x5 dX10_chance_110 rfl ?_
      refine g_iload C 7 5 x7 dX10_chance_112 rfl ?_
      refine g_callSi0 (As := [.int x7]) (rest := [.int x5, .int ((10 : Int32) - x3), .int r28, .int x6]) C (c_X10_ones l D cI cJ cZ cW x7 fu _ h) 1 gd_X10_245 rfl rfl rfl (by decide +kernel) ⟨Nat.le_of_ble_eq_true rfl, Nat.le_of_ble_eq_true rfl⟩ ⟨Nat.le_of_ble_eq_true rfl, Nat.le_of_ble_eq_true rfl⟩ rfl rfl (Nat.le_of_ble_eq_true rfl) [] rfl rfl dX10_chance_114 (fun r29 h => ?_)
      refine g_isub C dX10_chance_117 ?_
      refine g_callSi0 (As := [.int ((10 : Int32) - x3), .int (x5 - r29)]) (rest := [.int r28, .int x6]) C (c_X10_power l D cI cJ cZ cW ((10 : Int32) - x3) (x5 - r29) fu _ h) 2 gd_X10_263 rfl rfl rfl (by decide +kernel) ⟨Nat.le_of_ble_eq_true rfl, Nat.le_of_ble_eq_true rfl⟩ ⟨Nat.le_of_ble_eq_true rfl, Nat.le_of_ble_eq_true rfl⟩ rfl rfl (Nat.le_of_ble_eq_true rfl) [] rfl rfl dX10_chance_118 (fun r30 h => ?_)
      refine g_imul C dX10_chance_121 ?_
      refine g_goto C 126 dX10_chance_122 (by decide) ?_
      refine g_lv [0, 1, 2, 3, 5] rfl ?_
      exact H126  x5 x7 x6 (r28 * r30) v_bits z19 z20 z21 v_idle z22 v_parity v_stops v_wide z23 z24 z18 h
  have H57 : ∀ (k0 : Int32) (v_bits : Int32) (v_failed : Int32) (v_failedAt : Int32) (v_frames : Int32) (v_idle : Int32) (v_margin : Int32) (v_parity : Int32) (v_stops : Int32) (v_wide : Int32) (v_letters : (Nat → Int32)) (v_starts : (Nat → Int32)) (v_trial : (Nat → Int32)), wX10_chance_57 fu v_deep v_now x1 x2 x3 x4 Q k0 v_bits v_failed v_failedAt v_frames v_idle v_margin v_parity v_stops v_wide v_letters v_starts v_trial → G p l e rmX10_chance s m args below meth c D A 8 0 0 Qm [(o, .inr (10, [.ref o_text, .int v_length, .ref o_now, .ref o_trial, .ref o_diary, .int v_acts, .int v_next, .ref o_kept, .ref o_isKept, .ref o_knownPlace, .ref o_knownLetter, .int v_known, .long v_seed, .int v_wide, .int v_bits, .int v_parity, .int v_stops, .int v_idle, .int v_frames, .int v_failed, .int v_failedAt, .int v_margin, .ref o_letters, .ref o_starts, .int v_bestFrames, .ref o_bestLetters, .int v_alike, .int v_fitting, .ref o_deep, .ref o_worth, .int v_readLevel, .int v_readMany, .ref o_readTicks, .int v_part, .int v_ten])), (o_deep, .inl (cI, 360, .inl v_deep)), (o_letters, .inl (cI, 64, .inl v_letters)), (o_now, .inl (cI, 361, .inl v_now)), (o_starts, .inl (cI, 64, .inl v_starts)), (o_trial, .inl (cI, 361, .inl v_trial))] [(0, .ref o), (3, .int x3), (4, .int x4)] 57 [.int k0] := by
    intro k0 v_bits v_failed v_failedAt v_frames v_idle v_margin v_parity v_stops v_wide v_letters v_starts v_trial h
    unfold wX10_chance_57 at h
    refine g_istore C [(5, .int k0), (0, .ref o), (3, .int x3), (4, .int x4)] dX10_chance_57 (by decide) rfl ?_
    refine g_iconst C (0 : Int32) dX10_chance_59 rfl ?_
    refine g_istore C [(6, .int (0 : Int32)), (5, .int k0), (0, .ref o), (3, .int x3), (4, .int x4)] dX10_chance_60 (by decide) rfl ?_
    refine g_iconst C (0 : Int32) dX10_chance_62 rfl ?_
    refine g_istore C [(7, .int (0 : Int32)), (6, .int (0 : Int32)), (5, .int k0), (0, .ref o), (3, .int x3), (4, .int x4)] dX10_chance_63 (by decide) rfl ?_
    refine g_lv [3, 4, 5, 2, 1, 0] rfl ?_
    exact H65 fu  k0 (0 : Int32) (0 : Int32) v_bits v_failed v_failedAt v_frames v_idle v_margin v_parity v_stops v_wide v_letters v_starts v_trial h
  unfold wp_X10_chance at h
  refine g_aload_n C 0 0 o dX10_chance_0 rfl rfl ?_
  refine g_iload_n C 1 1 x1 dX10_chance_1 rfl rfl ?_
  refine g_callVi (As := [.int x1]) (rest := []) C (c_X10_layCode l D cI cJ cZ cW o o_text o_now o_trial o_diary o_kept o_isKept o_knownPlace o_knownLetter o_letters o_starts o_bestLetters o_deep o_worth o_readTicks v_length v_acts v_next v_known v_seed v_wide v_bits v_parity v_stops v_idle v_frames v_failed v_failedAt v_margin v_bestFrames v_alike v_fitting v_readLevel v_readMany v_part v_ten x1 fu _ h) 1 gd_X10_152 rfl rfl rfl (by decide +kernel) ⟨Nat.le_of_ble_eq_true rfl, Nat.le_of_ble_eq_true rfl⟩ ⟨Nat.le_of_ble_eq_true rfl, Nat.le_of_ble_eq_true rfl⟩ 10 0 rfl rfl rfl rfl (Nat.le_of_ble_eq_true rfl) [0] [some 0, none, none, none, none, none] rfl rfl rfl dX10_chance_2 (fun r6 u h => ?_)
  obtain ⟨z1, z2, z3, z4, z5⟩ := u
  obtain ⟨hzr6, h⟩ := h
  refine ⟨[(o, .inr (10, [.ref o_text, .int v_length, .ref o_now, .ref o_trial, .ref o_diary, .int v_acts, .int v_next, .ref o_kept, .ref o_isKept, .ref o_knownPlace, .ref o_knownLetter, .int v_known, .long v_seed, .int z5, .int z1, .int z3, .int z4, .int z2, .int v_frames, .int v_failed, .int v_failedAt, .int v_margin, .ref o_letters, .ref o_starts, .int v_bestFrames, .ref o_bestLetters, .int v_alike, .int v_fitting, .ref o_deep, .ref o_worth, .int v_readLevel, .int v_readMany, .ref o_readTicks, .int v_part, .int v_ten])), (o_deep, .inl (cI, 360, .inl v_deep)), (o_letters, .inl (cI, 64, .inl v_letters)), (o_now, .inl (cI, 361, .inl v_now)), (o_starts, .inl (cI, 64, .inl v_starts)), (o_trial, .inl (cI, 361, .inl v_trial))], rfl, rfl, rfl, ?_⟩
  refine g_if_eq C 32 dX10_chance_5 (by decide) (fun c7 => ?_) (fun c7 => ?_)
  · have h := wp_t c7 h
    refine g_bipush C (-2 : Int32) dX10_chance_32 rfl ?_
    exact hret _ (z1, v_failed, v_failedAt, v_frames, z2, v_margin, z3, z4, z5, v_letters, v_starts, v_trial) _ _ _ dX10_chance_34 h rfl
  have h := wp_f c7 h
  refine g_iload_n C 2 2 x2 dX10_chance_8 rfl rfl ?_
  refine g_i2l C dX10_chance_9 ?_
  refine g_lconst C (0 : Int64) dX10_chance_10 rfl ?_
  refine g_ldc2 C (6 : Int64) wm_781 dX10_chance_11 ?_
  refine g_callSi0 (As := [.long (Int32.toInt64 x2), .long (0 : Int64), .long (6 : Int64)]) (rest := []) C (c_X10_in l D cI cJ cZ cW (Int32.toInt64 x2) (0 : Int64) (6 : Int64) fu _ h) 3 gd_X10_53 rfl rfl rfl (by decide +kernel) ⟨Nat.le_of_ble_eq_true rfl, Nat.le_of_ble_eq_true rfl⟩ ⟨Nat.le_of_ble_eq_true rfl, Nat.le_of_ble_eq_true rfl⟩ rfl rfl (Nat.le_of_ble_eq_true rfl) [] rfl rfl dX10_chance_14 (fun r8 h => ?_)
  obtain ⟨hzr8, h⟩ := h
  refine g_if_eq C 32 dX10_chance_17 (by decide) (fun c9 => ?_) (fun c9 => ?_)
  · have h := wp_t c9 h
    refine g_bipush C (-2 : Int32) dX10_chance_32 rfl ?_
    exact hret _ (z1, v_failed, v_failedAt, v_frames, z2, v_margin, z3, z4, z5, v_letters, v_starts, v_trial) _ _ _ dX10_chance_34 h rfl
  have h := wp_f c9 h
  refine g_iload_n C 3 3 x3 dX10_chance_20 rfl rfl ?_
  refine g_i2l C dX10_chance_21 ?_
  refine g_lconst C (0 : Int64) dX10_chance_22 rfl ?_
  refine g_ldc2 C (10 : Int64) wm_782 dX10_chance_23 ?_
  refine g_callSi0 (As := [.long (Int32.toInt64 x3), .long (0 : Int64), .long (10 : Int64)]) (rest := []) C (c_X10_in l D cI cJ cZ cW (Int32.toInt64 x3) (0 : Int64) (10 : Int64) fu _ h) 3 gd_X10_53 rfl rfl rfl (by decide +kernel) ⟨Nat.le_of_ble_eq_true rfl, Nat.le_of_ble_eq_true rfl⟩ ⟨Nat.le_of_ble_eq_true rfl, Nat.le_of_ble_eq_true rfl⟩ rfl rfl (Nat.le_of_ble_eq_true rfl) [] rfl rfl dX10_chance_26 (fun r10 h => ?_)
  obtain ⟨hzr10, h⟩ := h
  refine g_if_ne C 35 dX10_chance_29 (by decide) (fun c11 => ?_) (fun c11 => ?_)
  rotate_left
  · have h := wp_t c11 h
    refine g_bipush C (-2 : Int32) dX10_chance_32 rfl ?_
    exact hret _ (z1, v_failed, v_failedAt, v_frames, z2, v_margin, z3, z4, z5, v_letters, v_starts, v_trial) _ _ _ dX10_chance_34 h rfl
  have h := wp_f c11 h
  refine g_aload_n C 0 0 o dX10_chance_35 rfl rfl ?_
  refine g_get C 10 ix_10 0 _ rfl rfl 2 (by decide) wm_128 rfl (.ref o_now) rfl dX10_chance_36 ?_
  refine g_callSi0 (As := [.ref o_now]) (rest := []) C (c_X10_edges l D cI cJ cZ cW o_now v_now fu _ h) 1 gd_X10_172 rfl rfl rfl (by decide +kernel) ⟨Nat.le_of_ble_eq_true rfl, Nat.le_of_ble_eq_true rfl⟩ ⟨Nat.le_of_ble_eq_true rfl, Nat.le_of_ble_eq_true rfl⟩ rfl rfl (Nat.le_of_ble_eq_true rfl) [3] rfl rfl dX10_chance_39 (fun r12 h => ?_)
  refine g_iload_n C 2 2 x2 dX10_chance_42 rfl rfl ?_
  refine g_icmp_ge C 56 dX10_chance_43 (by decide) (fun c13 => ?_) (fun c13 => ?_)
  · have h := wp_t c13 h
    refine g_iload_n C 2 2 x2 dX10_chance_56 rfl rfl ?_
    refine g_lv [0, 3, 4] rfl ?_
    exact H57  x2 z1 v_failed v_failedAt v_frames z2 v_margin z3 z4 z5 v_letters v_starts v_trial h
  have h := wp_f c13 h
  refine g_aload_n C 0 0 o dX10_chance_46 rfl rfl ?_
  refine g_get C 10 ix_10 0 _ rfl rfl 2 (by decide) wm_128 rfl (.ref o_now) rfl dX10_chance_47 ?_
  refine g_callSi0 (As := [.ref o_now]) (rest := []) C (c_X10_edges l D cI cJ cZ cW o_now v_now fu _ h) 1 gd_X10_172 rfl rfl rfl (by decide +kernel) ⟨Nat.le_of_ble_eq_true rfl, Nat.le_of_ble_eq_true rfl⟩ ⟨Nat.le_of_ble_eq_true rfl, Nat.le_of_ble_eq_true rfl⟩ rfl rfl (Nat.le_of_ble_eq_true rfl) [3] rfl rfl dX10_chance_50 (fun r14 h => ?_)
  refine g_goto C 57 dX10_chance_53 (by decide) ?_
  refine g_lv [0, 3, 4] rfl ?_
  exact H57  r14 z1 v_failed v_failedAt v_frames z2 v_margin z3 z4 z5 v_letters v_starts v_trial h
abbrev rmX10_seed : Room := { frames := 0, cells := 0, slots := 0, locals := 0 }
def wp_X10_seed (fu : Nat) (x1 : Int64) (v_seed : Int64) (Q : Int64 → Int64 → Prop) : Prop := Q v_seed x1
set_option maxHeartbeats 4000000 in
set_option maxRecDepth 100000 in
theorem c_X10_seed (l : Launch) (D : va_G) (cI cJ cZ cW : ClassId) (o o_text o_now o_trial o_diary o_kept o_isKept o_knownPlace o_knownLetter o_letters o_starts o_bestLetters o_deep o_worth o_readTicks : Nat) (v_length : Int32) (v_acts : Int32) (v_next : Int32) (v_known : Int32) (v_seed : Int64) (v_wide : Int32) (v_bits : Int32) (v_parity : Int32) (v_stops : Int32) (v_idle : Int32) (v_frames : Int32) (v_failed : Int32) (v_failedAt : Int32) (v_margin : Int32) (v_bestFrames : Int32) (v_alike : Int32) (v_fitting : Int32) (v_readLevel : Int32) (v_readMany : Int32) (v_part : Int32) (v_ten : Int32) (x1 : Int64) (fu : Nat) (Q : Int64 → Int64 → Prop) (h : wp_X10_seed fu x1 v_seed Q) : CtL l yX10_seed wkX10_seed rmX10_seed D (tys4 cI cJ cZ cW) [.ref o, .long x1] [(o, .inr (10, [.ref o_text, .int v_length, .ref o_now, .ref o_trial, .ref o_diary, .int v_acts, .int v_next, .ref o_kept, .ref o_isKept, .ref o_knownPlace, .ref o_knownLetter, .int v_known, .long v_seed, .int v_wide, .int v_bits, .int v_parity, .int v_stops, .int v_idle, .int v_frames, .int v_failed, .int v_failedAt, .int v_margin, .ref o_letters, .ref o_starts, .int v_bestFrames, .ref o_bestLetters, .int v_alike, .int v_fitting, .ref o_deep, .ref o_worth, .int v_readLevel, .int v_readMany, .ref o_readTicks, .int v_part, .int v_ten]))] (fun (r : Int64) (u : Int64) => Q r u) (fun (u : Int64) => [(o, .inr (10, [.ref o_text, .int v_length, .ref o_now, .ref o_trial, .ref o_diary, .int v_acts, .int v_next, .ref o_kept, .ref o_isKept, .ref o_knownPlace, .ref o_knownLetter, .int v_known, .long u, .int v_wide, .int v_bits, .int v_parity, .int v_stops, .int v_idle, .int v_frames, .int v_failed, .int v_failedAt, .int v_margin, .ref o_letters, .ref o_starts, .int v_bestFrames, .ref o_bestLetters, .int v_alike, .int v_fitting, .ref o_deep, .ref o_worth, .int v_readLevel, .int v_readMany, .ref o_readTicks, .int v_part, .int v_ten]))]) := by
  refine CtL.of (S := Int64) (y := yX10_seed) (Tc := wkX10_seed) (rm := rmX10_seed) (D := D) (tys := tys4 cI cJ cZ cW) (av := [.ref o, .long x1]) (wc := [(o, .inr (10, [.ref o_text, .int v_length, .ref o_now, .ref o_trial, .ref o_diary, .int v_acts, .int v_next, .ref o_kept, .ref o_isKept, .ref o_knownPlace, .ref o_knownLetter, .int v_known, .long v_seed, .int v_wide, .int v_bits, .int v_parity, .int v_stops, .int v_idle, .int v_frames, .int v_failed, .int v_failedAt, .int v_margin, .ref o_letters, .ref o_starts, .int v_bestFrames, .ref o_bestLetters, .int v_alike, .int v_fitting, .ref o_deep, .ref o_worth, .int v_readLevel, .int v_readMany, .ref o_readTicks, .int v_part, .int v_ten]))]) (post := (fun (r : Int64) (u : Int64) => Q r u)) (w1 := (fun (u : Int64) => [(o, .inr (10, [.ref o_text, .int v_length, .ref o_now, .ref o_trial, .ref o_diary, .int v_acts, .int v_next, .ref o_kept, .ref o_isKept, .ref o_knownPlace, .ref o_knownLetter, .int v_known, .long u, .int v_wide, .int v_bits, .int v_parity, .int v_stops, .int v_idle, .int v_frames, .int v_failed, .int v_failedAt, .int v_margin, .ref o_letters, .ref o_starts, .int v_bestFrames, .ref o_bestLetters, .int v_alike, .int v_fitting, .ref o_deep, .ref o_worth, .int v_readLevel, .int v_readMany, .ref o_readTicks, .int v_part, .int v_ten]))])) (cc := cX10_seed) (maxL := 5) RX10 rfl (by decide +kernel) rfl rfl [(0, .ref o), (1, .long x1)] rfl ?_
  intro p e s m args below meth c A Qm C hret
  unfold wp_X10_seed at h
  refine g_aload_n C 0 0 o dX10_seed_0 rfl rfl ?_
  refine g_get C 10 ix_10 0 _ rfl rfl 12 (by decide) wm_798 rfl (.long v_seed) rfl dX10_seed_1 ?_
  refine g_lstore_n C [(3, .long v_seed), (0, .ref o), (1, .long x1)] dX10_seed_4 rfl (by decide) rfl ?_
  refine g_aload_n C 0 1 o dX10_seed_5 rfl rfl ?_
  refine g_lload_n C 1 2 x1 dX10_seed_6 rfl rfl ?_
  refine g_put C 10 ix_10 0 _ rfl rfl 12 (by decide) wm_798 rfl tyX10 tyX10_ok nmX10 rfl rfl rfl (Nat.le_of_ble_eq_true rfl) dX10_seed_7 [(o, .inr (10, [.ref o_text, .int v_length, .ref o_now, .ref o_trial, .ref o_diary, .int v_acts, .int v_next, .ref o_kept, .ref o_isKept, .ref o_knownPlace, .ref o_knownLetter, .int v_known, .long x1, .int v_wide, .int v_bits, .int v_parity, .int v_stops, .int v_idle, .int v_frames, .int v_failed, .int v_failedAt, .int v_margin, .ref o_letters, .ref o_starts, .int v_bestFrames, .ref o_bestLetters, .int v_alike, .int v_fitting, .ref o_deep, .ref o_worth, .int v_readLevel, .int v_readMany, .ref o_readTicks, .int v_part, .int v_ten]))] rfl ?_
  refine g_lload_n C 3 0 v_seed dX10_seed_10 rfl rfl ?_
  exact hret _ x1 _ _ _ dX10_seed_11 h rfl
abbrev rmX10_drawn : Room := { frames := 4, cells := 0, slots := 0, locals := 97 }
def wX10_drawn_147 (fu : Nat) (v_deep : (Nat → Int32)) (v_now : (Nat → Int32)) (x1 : Int32) (x2 : Int32) (Q : Int32 → Int32 → Int32 → Int32 → Int32 → Int32 → Int32 → Int32 → Int64 → Int32 → Int32 → (Nat → Int32) → (Nat → Int32) → (Nat → Int32) → Prop) (K39 : Int32 → Int32 → Int32 → Int32 → Int32 → Int32 → Int32 → Int32 → Int32 → Int64 → Int32 → Int32 → (Nat → Int32) → (Nat → Int32) → (Nat → Int32) → Prop) (x3 : Int32) (x4 : Int32) (v_bits : Int32) (v_failed : Int32) (v_failedAt : Int32) (v_frames : Int32) (v_idle : Int32) (v_margin : Int32) (v_parity : Int32) (v_seed : Int64) (v_stops : Int32) (v_wide : Int32) (v_letters : (Nat → Int32)) (v_starts : (Nat → Int32)) (v_trial : (Nat → Int32)) : Prop := wp_X10_read fu v_bits v_idle v_parity v_stops v_wide v_deep v_trial v_failed v_failedAt v_frames v_margin v_letters v_starts (fun (z22 : Int32) (z23 : Int32) (z24 : Int32) (z25 : Int32) (z26 : (Nat → Int32)) (z27 : (Nat → Int32)) => (∀ y28 : Int32, y28 = (x3 + z24) → K39 y28 (x4 + (1 : Int32)) v_bits z22 z23 z24 v_idle z25 v_parity v_seed v_stops v_wide z26 z27 v_trial))
def wX10_drawn_96 (fu : Nat) (v_deep : (Nat → Int32)) (v_now : (Nat → Int32)) (x1 : Int32) (x2 : Int32) (Q : Int32 → Int32 → Int32 → Int32 → Int32 → Int32 → Int32 → Int32 → Int64 → Int32 → Int32 → (Nat → Int32) → (Nat → Int32) → (Nat → Int32) → Prop) (K39 : Int32 → Int32 → Int32 → Int32 → Int32 → Int32 → Int32 → Int32 → Int32 → Int64 → Int32 → Int32 → (Nat → Int32) → (Nat → Int32) → (Nat → Int32) → Prop) (x3 : Int32) (x4 : Int32) (x5 : Int32) (v_bits : Int32) (v_failed : Int32) (v_failedAt : Int32) (v_frames : Int32) (v_idle : Int32) (v_margin : Int32) (v_parity : Int32) (v_seed : Int64) (v_stops : Int32) (v_wide : Int32) (v_letters : (Nat → Int32)) (v_starts : (Nat → Int32)) (v_trial : (Nat → Int32)) : Prop := (∀ y16 : Int32, y16 = (irm (x5 / (256 : Int32)) (400 : Int32)) → wp_X10_isTick fu v_trial y16 (fun (r17 : Int32) => (if r17 = 0 then wX10_drawn_147 fu v_deep v_now x1 x2 Q K39 x3 x4 v_bits v_failed v_failedAt v_frames v_idle v_margin v_parity v_seed v_stops v_wide v_letters v_starts v_trial else (if (irm (x5 / (131072 : Int32)) (4 : Int32)) = 0 then (vp_in y16 361 ∧ (vp_in y16 361 ∧ wX10_drawn_147 fu v_deep v_now x1 x2 Q K39 x3 x4 v_bits v_failed v_failedAt v_frames v_idle v_margin v_parity v_seed v_stops v_wide v_letters v_starts (upd v_trial (ix y16) ((1 : Int32) - (v_trial (ix y16)))))) else wX10_drawn_147 fu v_deep v_now x1 x2 Q K39 x3 x4 v_bits v_failed v_failedAt v_frames v_idle v_margin v_parity v_seed v_stops v_wide v_letters v_starts v_trial))))
def wX10_drawn_39 (fu : Nat) (v_deep : (Nat → Int32)) (v_now : (Nat → Int32)) (x1 : Int32) (x2 : Int32) (Q : Int32 → Int32 → Int32 → Int32 → Int32 → Int32 → Int32 → Int32 → Int64 → Int32 → Int32 → (Nat → Int32) → (Nat → Int32) → (Nat → Int32) → Prop) : Nat → Int32 → Int32 → Int32 → Int32 → Int32 → Int32 → Int32 → Int32 → Int32 → Int64 → Int32 → Int32 → (Nat → Int32) → (Nat → Int32) → (Nat → Int32) → Prop
  | 0, _, _, _, _, _, _, _, _, _, _, _, _, _, _, _ => False
  | n0 + 1, x3, x4, v_bits, v_failed, v_failedAt, v_frames, v_idle, v_margin, v_parity, v_seed, v_stops, v_wide, v_letters, v_starts, v_trial => (if x2 ≤ x4 then Q x3 v_bits v_failed v_failedAt v_frames v_idle v_margin v_parity v_seed v_stops v_wide v_letters v_starts v_trial else (∀ y12 : Int32, y12 = (Int64.toInt32 (lus ((v_seed * (6364136223846793005 : Int64)) + (1442695040888963407 : Int64)) (33 : Int32))) → wp_X10_hasRoom fu v_bits v_parity v_stops v_wide v_trial (fun (r13 : Int32) => (if r13 = 0 then wX10_drawn_96 fu v_deep v_now x1 x2 Q (wX10_drawn_39 fu v_deep v_now x1 x2 Q n0) x3 x4 y12 v_bits v_failed v_failedAt v_frames v_idle v_margin v_parity ((v_seed * (6364136223846793005 : Int64)) + (1442695040888963407 : Int64)) v_stops v_wide v_letters v_starts v_trial else wp_X10_sendOn fu v_bits v_idle v_parity v_stops v_wide (y12 &&& (255 : Int32)) v_trial (fun (z15 : (Nat → Int32)) => wX10_drawn_96 fu v_deep v_now x1 x2 Q (wX10_drawn_39 fu v_deep v_now x1 x2 Q n0) x3 x4 y12 v_bits v_failed v_failedAt v_frames v_idle v_margin v_parity ((v_seed * (6364136223846793005 : Int64)) + (1442695040888963407 : Int64)) v_stops v_wide v_letters v_starts z15)))))
def wp_X10_drawn (fu : Nat) (v_deep : (Nat → Int32)) (v_now : (Nat → Int32)) (x1 : Int32) (x2 : Int32) (v_bits : Int32) (v_failed : Int32) (v_failedAt : Int32) (v_frames : Int32) (v_idle : Int32) (v_margin : Int32) (v_parity : Int32) (v_seed : Int64) (v_stops : Int32) (v_wide : Int32) (v_letters : (Nat → Int32)) (v_starts : (Nat → Int32)) (v_trial : (Nat → Int32)) (Q : Int32 → Int32 → Int32 → Int32 → Int32 → Int32 → Int32 → Int32 → Int64 → Int32 → Int32 → (Nat → Int32) → (Nat → Int32) → (Nat → Int32) → Prop) : Prop := wp_X10_layCode fu x1 v_bits v_idle v_parity v_stops v_wide (fun (r6 : Int32) (z1 : Int32) (z2 : Int32) (z3 : Int32) (z4 : Int32) (z5 : Int32) => (if r6 = 0 then Q (-2 : Int32) z1 v_failed v_failedAt v_frames z2 v_margin z3 v_seed z4 z5 v_letters v_starts v_trial else wp_X10_in fu (Int32.toInt64 x2) (1 : Int64) (10 : Int64) (fun (r8 : Int32) => (if r8 = 0 then Q (-2 : Int32) z1 v_failed v_failedAt v_frames z2 v_margin z3 v_seed z4 z5 v_letters v_starts v_trial else wp_X10_copy fu v_now v_trial (fun (z10 : (Nat → Int32)) => wX10_drawn_39 fu v_deep v_now x1 x2 Q fu (0 : Int32) (0 : Int32) z1 v_failed v_failedAt v_frames z2 v_margin z3 v_seed z4 z5 v_letters v_starts z10)))))
set_option maxHeartbeats 4000000 in
set_option maxRecDepth 100000 in
theorem c_X10_drawn (l : Launch) (D : va_G) (cI cJ cZ cW : ClassId) (o o_text o_now o_trial o_diary o_kept o_isKept o_knownPlace o_knownLetter o_letters o_starts o_bestLetters o_deep o_worth o_readTicks : Nat) (v_length : Int32) (v_acts : Int32) (v_next : Int32) (v_known : Int32) (v_seed : Int64) (v_wide : Int32) (v_bits : Int32) (v_parity : Int32) (v_stops : Int32) (v_idle : Int32) (v_frames : Int32) (v_failed : Int32) (v_failedAt : Int32) (v_margin : Int32) (v_bestFrames : Int32) (v_alike : Int32) (v_fitting : Int32) (v_readLevel : Int32) (v_readMany : Int32) (v_part : Int32) (v_ten : Int32) (v_deep : (Nat → Int32)) (v_letters : (Nat → Int32)) (v_now : (Nat → Int32)) (v_starts : (Nat → Int32)) (v_trial : (Nat → Int32)) (x1 : Int32) (x2 : Int32) (fu : Nat) (Q : Int32 → Int32 → Int32 → Int32 → Int32 → Int32 → Int32 → Int32 → Int64 → Int32 → Int32 → (Nat → Int32) → (Nat → Int32) → (Nat → Int32) → Prop) (h : wp_X10_drawn fu v_deep v_now x1 x2 v_bits v_failed v_failedAt v_frames v_idle v_margin v_parity v_seed v_stops v_wide v_letters v_starts v_trial Q) : CtI l yX10_drawn wkX10_drawn rmX10_drawn D (tys4 cI cJ cZ cW) [.ref o, .int x1, .int x2] [(o, .inr (10, [.ref o_text, .int v_length, .ref o_now, .ref o_trial, .ref o_diary, .int v_acts, .int v_next, .ref o_kept, .ref o_isKept, .ref o_knownPlace, .ref o_knownLetter, .int v_known, .long v_seed, .int v_wide, .int v_bits, .int v_parity, .int v_stops, .int v_idle, .int v_frames, .int v_failed, .int v_failedAt, .int v_margin, .ref o_letters, .ref o_starts, .int v_bestFrames, .ref o_bestLetters, .int v_alike, .int v_fitting, .ref o_deep, .ref o_worth, .int v_readLevel, .int v_readMany, .ref o_readTicks, .int v_part, .int v_ten])), (o_deep, .inl (cI, 360, .inl v_deep)), (o_letters, .inl (cI, 64, .inl v_letters)), (o_now, .inl (cI, 361, .inl v_now)), (o_starts, .inl (cI, 64, .inl v_starts)), (o_trial, .inl (cI, 361, .inl v_trial))] (fun (r : Int32) (u : Int32 × Int32 × Int32 × Int32 × Int32 × Int32 × Int32 × Int64 × Int32 × Int32 × (Nat → Int32) × (Nat → Int32) × (Nat → Int32)) => Q r u.1 u.2.1 u.2.2.1 u.2.2.2.1 u.2.2.2.2.1 u.2.2.2.2.2.1 u.2.2.2.2.2.2.1 u.2.2.2.2.2.2.2.1 u.2.2.2.2.2.2.2.2.1 u.2.2.2.2.2.2.2.2.2.1 u.2.2.2.2.2.2.2.2.2.2.1 u.2.2.2.2.2.2.2.2.2.2.2.1 u.2.2.2.2.2.2.2.2.2.2.2.2) (fun (u : Int32 × Int32 × Int32 × Int32 × Int32 × Int32 × Int32 × Int64 × Int32 × Int32 × (Nat → Int32) × (Nat → Int32) × (Nat → Int32)) => [(o, .inr (10, [.ref o_text, .int v_length, .ref o_now, .ref o_trial, .ref o_diary, .int v_acts, .int v_next, .ref o_kept, .ref o_isKept, .ref o_knownPlace, .ref o_knownLetter, .int v_known, .long u.2.2.2.2.2.2.2.1, .int u.2.2.2.2.2.2.2.2.2.1, .int u.1, .int u.2.2.2.2.2.2.1, .int u.2.2.2.2.2.2.2.2.1, .int u.2.2.2.2.1, .int u.2.2.2.1, .int u.2.1, .int u.2.2.1, .int u.2.2.2.2.2.1, .ref o_letters, .ref o_starts, .int v_bestFrames, .ref o_bestLetters, .int v_alike, .int v_fitting, .ref o_deep, .ref o_worth, .int v_readLevel, .int v_readMany, .ref o_readTicks, .int v_part, .int v_ten])), (o_deep, .inl (cI, 360, .inl v_deep)), (o_letters, .inl (cI, 64, .inl u.2.2.2.2.2.2.2.2.2.2.1)), (o_now, .inl (cI, 361, .inl v_now)), (o_starts, .inl (cI, 64, .inl u.2.2.2.2.2.2.2.2.2.2.2.1)), (o_trial, .inl (cI, 361, .inl u.2.2.2.2.2.2.2.2.2.2.2.2))]) := by
  refine CtI.of (S := Int32 × Int32 × Int32 × Int32 × Int32 × Int32 × Int32 × Int64 × Int32 × Int32 × (Nat → Int32) × (Nat → Int32) × (Nat → Int32)) (y := yX10_drawn) (Tc := wkX10_drawn) (rm := rmX10_drawn) (D := D) (tys := tys4 cI cJ cZ cW) (av := [.ref o, .int x1, .int x2]) (wc := [(o, .inr (10, [.ref o_text, .int v_length, .ref o_now, .ref o_trial, .ref o_diary, .int v_acts, .int v_next, .ref o_kept, .ref o_isKept, .ref o_knownPlace, .ref o_knownLetter, .int v_known, .long v_seed, .int v_wide, .int v_bits, .int v_parity, .int v_stops, .int v_idle, .int v_frames, .int v_failed, .int v_failedAt, .int v_margin, .ref o_letters, .ref o_starts, .int v_bestFrames, .ref o_bestLetters, .int v_alike, .int v_fitting, .ref o_deep, .ref o_worth, .int v_readLevel, .int v_readMany, .ref o_readTicks, .int v_part, .int v_ten])), (o_deep, .inl (cI, 360, .inl v_deep)), (o_letters, .inl (cI, 64, .inl v_letters)), (o_now, .inl (cI, 361, .inl v_now)), (o_starts, .inl (cI, 64, .inl v_starts)), (o_trial, .inl (cI, 361, .inl v_trial))]) (post := (fun (r : Int32) (u : Int32 × Int32 × Int32 × Int32 × Int32 × Int32 × Int32 × Int64 × Int32 × Int32 × (Nat → Int32) × (Nat → Int32) × (Nat → Int32)) => Q r u.1 u.2.1 u.2.2.1 u.2.2.2.1 u.2.2.2.2.1 u.2.2.2.2.2.1 u.2.2.2.2.2.2.1 u.2.2.2.2.2.2.2.1 u.2.2.2.2.2.2.2.2.1 u.2.2.2.2.2.2.2.2.2.1 u.2.2.2.2.2.2.2.2.2.2.1 u.2.2.2.2.2.2.2.2.2.2.2.1 u.2.2.2.2.2.2.2.2.2.2.2.2)) (w1 := (fun (u : Int32 × Int32 × Int32 × Int32 × Int32 × Int32 × Int32 × Int64 × Int32 × Int32 × (Nat → Int32) × (Nat → Int32) × (Nat → Int32)) => [(o, .inr (10, [.ref o_text, .int v_length, .ref o_now, .ref o_trial, .ref o_diary, .int v_acts, .int v_next, .ref o_kept, .ref o_isKept, .ref o_knownPlace, .ref o_knownLetter, .int v_known, .long u.2.2.2.2.2.2.2.1, .int u.2.2.2.2.2.2.2.2.2.1, .int u.1, .int u.2.2.2.2.2.2.1, .int u.2.2.2.2.2.2.2.2.1, .int u.2.2.2.2.1, .int u.2.2.2.1, .int u.2.1, .int u.2.2.1, .int u.2.2.2.2.2.1, .ref o_letters, .ref o_starts, .int v_bestFrames, .ref o_bestLetters, .int v_alike, .int v_fitting, .ref o_deep, .ref o_worth, .int v_readLevel, .int v_readMany, .ref o_readTicks, .int v_part, .int v_ten])), (o_deep, .inl (cI, 360, .inl v_deep)), (o_letters, .inl (cI, 64, .inl u.2.2.2.2.2.2.2.2.2.2.1)), (o_now, .inl (cI, 361, .inl v_now)), (o_starts, .inl (cI, 64, .inl u.2.2.2.2.2.2.2.2.2.2.2.1)), (o_trial, .inl (cI, 361, .inl u.2.2.2.2.2.2.2.2.2.2.2.2))])) (cc := cX10_drawn) (maxL := 7) RX10 rfl (by decide +kernel) rfl rfl [(0, .ref o), (1, .int x1), (2, .int x2)] rfl ?_
  intro p e s m args below meth c A Qm C hret
  have H39 : ∀ (n39 : Nat) (x3 : Int32) (x4 : Int32) (v_bits : Int32) (v_failed : Int32) (v_failedAt : Int32) (v_frames : Int32) (v_idle : Int32) (v_margin : Int32) (v_parity : Int32) (v_seed : Int64) (v_stops : Int32) (v_wide : Int32) (v_letters : (Nat → Int32)) (v_starts : (Nat → Int32)) (v_trial : (Nat → Int32)), wX10_drawn_39 fu v_deep v_now x1 x2 Q n39 x3 x4 v_bits v_failed v_failedAt v_frames v_idle v_margin v_parity v_seed v_stops v_wide v_letters v_starts v_trial → G p l e rmX10_drawn s m args below meth c D A 7 0 0 Qm [(o, .inr (10, [.ref o_text, .int v_length, .ref o_now, .ref o_trial, .ref o_diary, .int v_acts, .int v_next, .ref o_kept, .ref o_isKept, .ref o_knownPlace, .ref o_knownLetter, .int v_known, .long v_seed, .int v_wide, .int v_bits, .int v_parity, .int v_stops, .int v_idle, .int v_frames, .int v_failed, .int v_failedAt, .int v_margin, .ref o_letters, .ref o_starts, .int v_bestFrames, .ref o_bestLetters, .int v_alike, .int v_fitting, .ref o_deep, .ref o_worth, .int v_readLevel, .int v_readMany, .ref o_readTicks, .int v_part, .int v_ten])), (o_deep, .inl (cI, 360, .inl v_deep)), (o_letters, .inl (cI, 64, .inl v_letters)), (o_now, .inl (cI, 361, .inl v_now)), (o_starts, .inl (cI, 64, .inl v_starts)), (o_trial, .inl (cI, 361, .inl v_trial))] [(0, .ref o), (2, .int x2), (3, .int x3), (4, .int x4)] 39 [] := by
    intro n39
    induction n39 with
    | zero => intro x3 x4 v_bits v_failed v_failedAt v_frames v_idle v_margin v_parity v_seed v_stops v_wide v_letters v_starts v_trial h; exact False.elim h
    | succ n39 ih39 =>
      have H147 : ∀ (x3 : Int32) (x4 : Int32) (v_bits : Int32) (v_failed : Int32) (v_failedAt : Int32) (v_frames : Int32) (v_idle : Int32) (v_margin : Int32) (v_parity : Int32) (v_seed : Int64) (v_stops : Int32) (v_wide : Int32) (v_letters : (Nat → Int32)) (v_starts : (Nat → Int32)) (v_trial : (Nat → Int32)), wX10_drawn_147 fu v_deep v_now x1 x2 Q (wX10_drawn_39 fu v_deep v_now x1 x2 Q n39) x3 x4 v_bits v_failed v_failedAt v_frames v_idle v_margin v_parity v_seed v_stops v_wide v_letters v_starts v_trial → G p l e rmX10_drawn s m args below meth c D A 7 0 0 Qm [(o, .inr (10, [.ref o_text, .int v_length, .ref o_now, .ref o_trial, .ref o_diary, .int v_acts, .int v_next, .ref o_kept, .ref o_isKept, .ref o_knownPlace, .ref o_knownLetter, .int v_known, .long v_seed, .int v_wide, .int v_bits, .int v_parity, .int v_stops, .int v_idle, .int v_frames, .int v_failed, .int v_failedAt, .int v_margin, .ref o_letters, .ref o_starts, .int v_bestFrames, .ref o_bestLetters, .int v_alike, .int v_fitting, .ref o_deep, .ref o_worth, .int v_readLevel, .int v_readMany, .ref o_readTicks, .int v_part, .int v_ten])), (o_deep, .inl (cI, 360, .inl v_deep)), (o_letters, .inl (cI, 64, .inl v_letters)), (o_now, .inl (cI, 361, .inl v_now)), (o_starts, .inl (cI, 64, .inl v_starts)), (o_trial, .inl (cI, 361, .inl v_trial))] [(0, .ref o), (2, .int x2), (3, .int x3), (4, .int x4)] 147 [] := by
        intro x3 x4 v_bits v_failed v_failedAt v_frames v_idle v_margin v_parity v_seed v_stops v_wide v_letters v_starts v_trial h
        unfold wX10_drawn_147 at h
        refine g_aload_n C 0 0 o dX10_drawn_147 rfl rfl ?_
        refine g_aload_n C 0 0 o dX10_drawn_148 rfl rfl ?_
        refine g_get C 10 ix_10 0 _ rfl rfl 3 (by decide) wm_129 rfl (.ref o_trial) rfl dX10_drawn_149 ?_
        refine g_callVv (As := [.ref o_trial]) (rest := []) C (c_X10_read l D cI cJ cZ cW o o_text o_now o_trial o_diary o_kept o_isKept o_knownPlace o_knownLetter o_letters o_starts o_bestLetters o_deep o_worth o_readTicks o_trial v_length v_acts v_next v_known v_seed v_wide v_bits v_parity v_stops v_idle v_frames v_failed v_failedAt v_margin v_bestFrames v_alike v_fitting v_readLevel v_readMany v_part v_ten v_deep v_letters v_starts v_trial fu _ h) 1 gd_X10_155 rfl rfl rfl (by decide +kernel) ⟨Nat.le_of_ble_eq_true rfl, Nat.le_of_ble_eq_true rfl⟩ ⟨Nat.le_of_ble_eq_true rfl, Nat.le_of_ble_eq_true rfl⟩ 10 0 rfl rfl rfl rfl (Nat.le_of_ble_eq_true rfl) [0, 1, 2, 4, 5] [some 0, some 1, some 2, none, some 3, some 4] rfl rfl rfl dX10_drawn_152 (fun u h => ?_)
        obtain ⟨z22, z23, z24, z25, z26, z27⟩ := u
        refine ⟨[(o, .inr (10, [.ref o_text, .int v_length, .ref o_now, .ref o_trial, .ref o_diary, .int v_acts, .int v_next, .ref o_kept, .ref o_isKept, .ref o_knownPlace, .ref o_knownLetter, .int v_known, .long v_seed, .int v_wide, .int v_bits, .int v_parity, .int v_stops, .int v_idle, .int z24, .int z22, .int z23, .int z25, .ref o_letters, .ref o_starts, .int v_bestFrames, .ref o_bestLetters, .int v_alike, .int v_fitting, .ref o_deep, .ref o_worth, .int v_readLevel, .int v_readMany, .ref o_readTicks, .int v_part, .int v_ten])), (o_deep, .inl (cI, 360, .inl v_deep)), (o_letters, .inl (cI, 64, .inl z26)), (o_now, .inl (cI, 361, .inl v_now)), (o_starts, .inl (cI, 64, .inl z27)), (o_trial, .inl (cI, 361, .inl v_trial))], rfl, rfl, rfl, ?_⟩
        refine g_iload_n C 3 2 x3 dX10_drawn_155 rfl rfl ?_
        refine g_aload_n C 0 0 o dX10_drawn_156 rfl rfl ?_
        refine g_get C 10 ix_10 0 _ rfl rfl 18 (by decide) wm_396 rfl (.int z24) rfl dX10_drawn_157 ?_
        refine g_iadd C dX10_drawn_160 ?_
        refine g_topi (fun y28 ey28 => ?_)
        have h := h y28 ey28
        refine g_istore_n C [(3, .int y28), (0, .ref o), (2, .int x2), (4, .int x4)] dX10_drawn_161 rfl (by decide) rfl ?_
        refine g_iinc C 3 x4 (x4 + (1 : Int32)) [(4, .int (x4 + (1 : Int32))), (3, .int y28), (0, .ref o), (2, .int x2)] dX10_drawn_162 rfl rfl (by decide) rfl ?_
        refine g_goto C 39 dX10_drawn_165 (by decide) ?_
        refine g_lv [2, 3, 1, 0] rfl ?_
        exact ih39  y28 (x4 + (1 : Int32)) v_bits z22 z23 z24 v_idle z25 v_parity v_seed v_stops v_wide z26 z27 v_trial h
      have H96 : ∀ (x3 : Int32) (x4 : Int32) (x5 : Int32) (v_bits : Int32) (v_failed : Int32) (v_failedAt : Int32) (v_frames : Int32) (v_idle : Int32) (v_margin : Int32) (v_parity : Int32) (v_seed : Int64) (v_stops : Int32) (v_wide : Int32) (v_letters : (Nat → Int32)) (v_starts : (Nat → Int32)) (v_trial : (Nat → Int32)), wX10_drawn_96 fu v_deep v_now x1 x2 Q (wX10_drawn_39 fu v_deep v_now x1 x2 Q n39) x3 x4 x5 v_bits v_failed v_failedAt v_frames v_idle v_margin v_parity v_seed v_stops v_wide v_letters v_starts v_trial → G p l e rmX10_drawn s m args below meth c D A 7 0 0 Qm [(o, .inr (10, [.ref o_text, .int v_length, .ref o_now, .ref o_trial, .ref o_diary, .int v_acts, .int v_next, .ref o_kept, .ref o_isKept, .ref o_knownPlace, .ref o_knownLetter, .int v_known, .long v_seed, .int v_wide, .int v_bits, .int v_parity, .int v_stops, .int v_idle, .int v_frames, .int v_failed, .int v_failedAt, .int v_margin, .ref o_letters, .ref o_starts, .int v_bestFrames, .ref o_bestLetters, .int v_alike, .int v_fitting, .ref o_deep, .ref o_worth, .int v_readLevel, .int v_readMany, .ref o_readTicks, .int v_part, .int v_ten])), (o_deep, .inl (cI, 360, .inl v_deep)), (o_letters, .inl (cI, 64, .inl v_letters)), (o_now, .inl (cI, 361, .inl v_now)), (o_starts, .inl (cI, 64, .inl v_starts)), (o_trial, .inl (cI, 361, .inl v_trial))] [(0, .ref o), (2, .int x2), (3, .int x3), (4, .int x4), (5, .int x5)] 96 [] := by
        intro x3 x4 x5 v_bits v_failed v_failedAt v_frames v_idle v_margin v_parity v_seed v_stops v_wide v_letters v_starts v_trial h
        unfold wX10_drawn_96 at h
        refine g_iload C 5 4 x5 dX10_drawn_96 rfl ?_
        refine g_sipush C (256 : Int32) dX10_drawn_98 rfl ?_
        refine g_idiv C (by decide) dX10_drawn_101 ?_
        refine g_sipush C (400 : Int32) dX10_drawn_102 rfl ?_
        refine g_irem C (by decide) dX10_drawn_105 ?_
        refine g_topi (fun y16 ey16 => ?_)
        have h := h y16 ey16
        refine g_istore C [(6, .int y16), (0, .ref o), (2, .int x2), (3, .int x3), (4, .int x4), (5, .int x5)] dX10_drawn_106 (by decide) rfl ?_
        refine g_aload_n C 0 1 o dX10_drawn_108 rfl rfl ?_
        refine g_get C 10 ix_10 0 _ rfl rfl 3 (by decide) wm_129 rfl (.ref o_trial) rfl dX10_drawn_109 ?_
        refine g_iload C 6 0 y16 dX10_drawn_112 rfl ?_
        refine g_callSi0 (As := [.ref o_trial, .int y16]) (rest := []) C (c_X10_isTick l D cI cJ cZ cW o_trial v_trial y16 fu _ h) 2 gd_X10_117 rfl rfl rfl (by decide +kernel) ⟨Nat.le_of_ble_eq_true rfl, Nat.le_of_ble_eq_true rfl⟩ ⟨Nat.le_of_ble_eq_true rfl, Nat.le_of_ble_eq_true rfl⟩ rfl rfl (Nat.le_of_ble_eq_true rfl) [5] rfl rfl dX10_drawn_114 (fun r17 h => ?_)
        obtain ⟨hzr17, h⟩ := h
        refine g_if_eq C 147 dX10_drawn_117 (by decide) (fun c18 => ?_) (fun c18 => ?_)
        · have h := wp_t c18 h
          refine g_lv [1, 2, 3, 4] rfl ?_
          exact H147  x3 x4 v_bits v_failed v_failedAt v_frames v_idle v_margin v_parity v_seed v_stops v_wide v_letters v_starts v_trial h
        have h := wp_f c18 h
        refine g_iload C 5 5 x5 dX10_drawn_120 rfl ?_
        refine g_ldcw C (131072 : Int32) wm_816 dX10_drawn_122 ?_
        refine g_idiv C (by decide) dX10_drawn_125 ?_
        refine g_iconst C (4 : Int32) dX10_drawn_126 rfl ?_
        refine g_irem C (by decide) dX10_drawn_127 ?_
        refine g_if_ne C 147 dX10_drawn_128 (by decide) (fun c19 => ?_) (fun c19 => ?_)
        · have h := wp_f c19 h
          refine g_lv [1, 2, 3, 4] rfl ?_
          exact H147  x3 x4 v_bits v_failed v_failedAt v_frames v_idle v_margin v_parity v_seed v_stops v_wide v_letters v_starts v_trial h
        have h := wp_t c19 h
        refine g_aload_n C 0 1 o dX10_drawn_131 rfl rfl ?_
        refine g_get C 10 ix_10 0 _ rfl rfl 3 (by decide) wm_129 rfl (.ref o_trial) rfl dX10_drawn_132 ?_
        refine g_iload C 6 0 y16 dX10_drawn_135 rfl ?_
        refine g_iconst C (1 : Int32) dX10_drawn_137 rfl ?_
        refine g_aload_n C 0 1 o dX10_drawn_138 rfl rfl ?_
        refine g_get C 10 ix_10 0 _ rfl rfl 3 (by decide) wm_129 rfl (.ref o_trial) rfl dX10_drawn_139 ?_
        refine g_iload C 6 0 y16 dX10_drawn_142 rfl ?_
        obtain ⟨hi20, h⟩ := h
        refine g_iald C 5 0 cI 361 v_trial rfl rfl hi20 dX10_drawn_144 ?_
        refine g_isub C dX10_drawn_145 ?_
        obtain ⟨hi21, h⟩ := h
        refine g_iast C 5 0 cI 361 v_trial rfl rfl hi21 dX10_drawn_146 [(o, .inr (10, [.ref o_text, .int v_length, .ref o_now, .ref o_trial, .ref o_diary, .int v_acts, .int v_next, .ref o_kept, .ref o_isKept, .ref o_knownPlace, .ref o_knownLetter, .int v_known, .long v_seed, .int v_wide, .int v_bits, .int v_parity, .int v_stops, .int v_idle, .int v_frames, .int v_failed, .int v_failedAt, .int v_margin, .ref o_letters, .ref o_starts, .int v_bestFrames, .ref o_bestLetters, .int v_alike, .int v_fitting, .ref o_deep, .ref o_worth, .int v_readLevel, .int v_readMany, .ref o_readTicks, .int v_part, .int v_ten])), (o_deep, .inl (cI, 360, .inl v_deep)), (o_letters, .inl (cI, 64, .inl v_letters)), (o_now, .inl (cI, 361, .inl v_now)), (o_starts, .inl (cI, 64, .inl v_starts)), (o_trial, .inl (cI, 361, .inl (upd v_trial (ix y16) ((1 : Int32) - (v_trial (ix y16))))))] rfl ?_
        refine g_lv [1, 2, 3, 4] rfl ?_
        exact H147  x3 x4 v_bits v_failed v_failedAt v_frames v_idle v_margin v_parity v_seed v_stops v_wide v_letters v_starts (upd v_trial (ix y16) ((1 : Int32) - (v_trial (ix y16)))) h
      intro x3 x4 v_bits v_failed v_failedAt v_frames v_idle v_margin v_parity v_seed v_stops v_wide v_letters v_starts v_trial h
      unfold wX10_drawn_39 at h
      refine g_iload C 4 3 x4 dX10_drawn_39 rfl ?_
      refine g_iload_n C 2 1 x2 dX10_drawn_41 rfl rfl ?_
      refine g_icmp_ge C 168 dX10_drawn_42 (by decide) (fun c11 => ?_) (fun c11 => ?_)
      · have h := wp_t c11 h
        refine g_iload_n C 3 2 x3 dX10_drawn_168 rfl rfl ?_
        exact hret _ (v_bits, v_failed, v_failedAt, v_frames, v_idle, v_margin, v_parity, v_seed, v_stops, v_wide, v_letters, v_starts, v_trial) _ _ _ dX10_drawn_169 h rfl
      have h := wp_f c11 h
      refine g_aload_n C 0 0 o dX10_drawn_45 rfl rfl ?_
      refine g_aload_n C 0 0 o dX10_drawn_46 rfl rfl ?_
      refine g_get C 10 ix_10 0 _ rfl rfl 12 (by decide) wm_798 rfl (.long v_seed) rfl dX10_drawn_47 ?_
      refine g_ldc2 C (6364136223846793005 : Int64) wm_814 dX10_drawn_50 ?_
      refine g_lmul C dX10_drawn_53 ?_
      refine g_ldc2 C (1442695040888963407 : Int64) wm_815 dX10_drawn_54 ?_
      refine g_ladd C dX10_drawn_57 ?_
      refine g_put C 10 ix_10 0 _ rfl rfl 12 (by decide) wm_798 rfl tyX10 tyX10_ok nmX10 rfl rfl rfl (Nat.le_of_ble_eq_true rfl) dX10_drawn_58 [(o, .inr (10, [.ref o_text, .int v_length, .ref o_now, .ref o_trial, .ref o_diary, .int v_acts, .int v_next, .ref o_kept, .ref o_isKept, .ref o_knownPlace, .ref o_knownLetter, .int v_known, .long ((v_seed * (6364136223846793005 : Int64)) + (1442695040888963407 : Int64)), .int v_wide, .int v_bits, .int v_parity, .int v_stops, .int v_idle, .int v_frames, .int v_failed, .int v_failedAt, .int v_margin, .ref o_letters, .ref o_starts, .int v_bestFrames, .ref o_bestLetters, .int v_alike, .int v_fitting, .ref o_deep, .ref o_worth, .int v_readLevel, .int v_readMany, .ref o_readTicks, .int v_part, .int v_ten])), (o_deep, .inl (cI, 360, .inl v_deep)), (o_letters, .inl (cI, 64, .inl v_letters)), (o_now, .inl (cI, 361, .inl v_now)), (o_starts, .inl (cI, 64, .inl v_starts)), (o_trial, .inl (cI, 361, .inl v_trial))] rfl ?_
      refine g_aload_n C 0 0 o dX10_drawn_61 rfl rfl ?_
      refine g_get C 10 ix_10 0 _ rfl rfl 12 (by decide) wm_798 rfl (.long ((v_seed * (6364136223846793005 : Int64)) + (1442695040888963407 : Int64))) rfl dX10_drawn_62 ?_
      refine g_bipush C (33 : Int32) dX10_drawn_65 rfl ?_
      refine g_lushr C dX10_drawn_67 ?_
      refine g_l2i C dX10_drawn_68 ?_
      refine g_topi (fun y12 ey12 => ?_)
      have h := h y12 ey12
      refine g_istore C [(5, .int y12), (0, .ref o), (2, .int x2), (3, .int x3), (4, .int x4)] dX10_drawn_69 (by decide) rfl ?_
      refine g_aload_n C 0 1 o dX10_drawn_71 rfl rfl ?_
      refine g_aload_n C 0 1 o dX10_drawn_72 rfl rfl ?_
      refine g_get C 10 ix_10 0 _ rfl rfl 3 (by decide) wm_129 rfl (.ref o_trial) rfl dX10_drawn_73 ?_
      refine g_callVi0 (As := [.ref o_trial]) (rest := []) C (c_X10_hasRoom l D cI cJ cZ cW o o_text o_now o_trial o_diary o_kept o_isKept o_knownPlace o_knownLetter o_letters o_starts o_bestLetters o_deep o_worth o_readTicks o_trial v_length v_acts v_next v_known ((v_seed * (6364136223846793005 : Int64)) + (1442695040888963407 : Int64)) v_wide v_bits v_parity v_stops v_idle v_frames v_failed v_failedAt v_margin v_bestFrames v_alike v_fitting v_readLevel v_readMany v_part v_ten v_trial fu _ h) 1 gd_X10_216 rfl rfl rfl (by decide +kernel) ⟨Nat.le_of_ble_eq_true rfl, Nat.le_of_ble_eq_true rfl⟩ ⟨Nat.le_of_ble_eq_true rfl, Nat.le_of_ble_eq_true rfl⟩ 10 0 rfl rfl rfl rfl (Nat.le_of_ble_eq_true rfl) [0, 5] rfl rfl dX10_drawn_76 (fun r13 h => ?_)
      obtain ⟨hzr13, h⟩ := h
      refine g_if_eq C 96 dX10_drawn_79 (by decide) (fun c14 => ?_) (fun c14 => ?_)
      · have h := wp_t c14 h
        refine g_lv [1, 2, 3, 4, 0] rfl ?_
        exact H96  x3 x4 y12 v_bits v_failed v_failedAt v_frames v_idle v_margin v_parity ((v_seed * (6364136223846793005 : Int64)) + (1442695040888963407 : Int64)) v_stops v_wide v_letters v_starts v_trial h
      have h := wp_f c14 h
      refine g_aload_n C 0 1 o dX10_drawn_82 rfl rfl ?_
      refine g_aload_n C 0 1 o dX10_drawn_83 rfl rfl ?_
      refine g_get C 10 ix_10 0 _ rfl rfl 3 (by decide) wm_129 rfl (.ref o_trial) rfl dX10_drawn_84 ?_
      refine g_iload C 5 0 y12 dX10_drawn_87 rfl ?_
      refine g_sipush C (255 : Int32) dX10_drawn_89 rfl ?_
      refine g_iand C dX10_drawn_92 ?_
      refine g_callVv (As := [.ref o_trial, .int (y12 &&& (255 : Int32))]) (rest := []) C (c_X10_sendOn l D cI cJ cZ cW o o_text o_now o_trial o_diary o_kept o_isKept o_knownPlace o_knownLetter o_letters o_starts o_bestLetters o_deep o_worth o_readTicks o_trial v_length v_acts v_next v_known ((v_seed * (6364136223846793005 : Int64)) + (1442695040888963407 : Int64)) v_wide v_bits v_parity v_stops v_idle v_frames v_failed v_failedAt v_margin v_bestFrames v_alike v_fitting v_readLevel v_readMany v_part v_ten v_trial (y12 &&& (255 : Int32)) fu _ h) 2 gd_X10_220 rfl rfl rfl (by decide +kernel) ⟨Nat.le_of_ble_eq_true rfl, Nat.le_of_ble_eq_true rfl⟩ ⟨Nat.le_of_ble_eq_true rfl, Nat.le_of_ble_eq_true rfl⟩ 10 0 rfl rfl rfl rfl (Nat.le_of_ble_eq_true rfl) [0, 5] [some 0, none, none, none, none, some 1] rfl rfl rfl dX10_drawn_93 (fun u h => ?_)
      obtain ⟨z15, rfl⟩ : ∃ z, z = u := ⟨_, rfl⟩
      refine ⟨[(o, .inr (10, [.ref o_text, .int v_length, .ref o_now, .ref o_trial, .ref o_diary, .int v_acts, .int v_next, .ref o_kept, .ref o_isKept, .ref o_knownPlace, .ref o_knownLetter, .int v_known, .long ((v_seed * (6364136223846793005 : Int64)) + (1442695040888963407 : Int64)), .int v_wide, .int v_bits, .int v_parity, .int v_stops, .int v_idle, .int v_frames, .int v_failed, .int v_failedAt, .int v_margin, .ref o_letters, .ref o_starts, .int v_bestFrames, .ref o_bestLetters, .int v_alike, .int v_fitting, .ref o_deep, .ref o_worth, .int v_readLevel, .int v_readMany, .ref o_readTicks, .int v_part, .int v_ten])), (o_deep, .inl (cI, 360, .inl v_deep)), (o_letters, .inl (cI, 64, .inl v_letters)), (o_now, .inl (cI, 361, .inl v_now)), (o_starts, .inl (cI, 64, .inl v_starts)), (o_trial, .inl (cI, 361, .inl z15))], rfl, rfl, rfl, ?_⟩
      refine g_lv [1, 2, 3, 4, 0] rfl ?_
      exact H96  x3 x4 y12 v_bits v_failed v_failedAt v_frames v_idle v_margin v_parity ((v_seed * (6364136223846793005 : Int64)) + (1442695040888963407 : Int64)) v_stops v_wide v_letters v_starts z15 h
  unfold wp_X10_drawn at h
  refine g_aload_n C 0 0 o dX10_drawn_0 rfl rfl ?_
  refine g_iload_n C 1 1 x1 dX10_drawn_1 rfl rfl ?_
  refine g_callVi (As := [.int x1]) (rest := []) C (c_X10_layCode l D cI cJ cZ cW o o_text o_now o_trial o_diary o_kept o_isKept o_knownPlace o_knownLetter o_letters o_starts o_bestLetters o_deep o_worth o_readTicks v_length v_acts v_next v_known v_seed v_wide v_bits v_parity v_stops v_idle v_frames v_failed v_failedAt v_margin v_bestFrames v_alike v_fitting v_readLevel v_readMany v_part v_ten x1 fu _ h) 1 gd_X10_152 rfl rfl rfl (by decide +kernel) ⟨Nat.le_of_ble_eq_true rfl, Nat.le_of_ble_eq_true rfl⟩ ⟨Nat.le_of_ble_eq_true rfl, Nat.le_of_ble_eq_true rfl⟩ 10 0 rfl rfl rfl rfl (Nat.le_of_ble_eq_true rfl) [0] [some 0, none, none, none, none, none] rfl rfl rfl dX10_drawn_2 (fun r6 u h => ?_)
  obtain ⟨z1, z2, z3, z4, z5⟩ := u
  obtain ⟨hzr6, h⟩ := h
  refine ⟨[(o, .inr (10, [.ref o_text, .int v_length, .ref o_now, .ref o_trial, .ref o_diary, .int v_acts, .int v_next, .ref o_kept, .ref o_isKept, .ref o_knownPlace, .ref o_knownLetter, .int v_known, .long v_seed, .int z5, .int z1, .int z3, .int z4, .int z2, .int v_frames, .int v_failed, .int v_failedAt, .int v_margin, .ref o_letters, .ref o_starts, .int v_bestFrames, .ref o_bestLetters, .int v_alike, .int v_fitting, .ref o_deep, .ref o_worth, .int v_readLevel, .int v_readMany, .ref o_readTicks, .int v_part, .int v_ten])), (o_deep, .inl (cI, 360, .inl v_deep)), (o_letters, .inl (cI, 64, .inl v_letters)), (o_now, .inl (cI, 361, .inl v_now)), (o_starts, .inl (cI, 64, .inl v_starts)), (o_trial, .inl (cI, 361, .inl v_trial))], rfl, rfl, rfl, ?_⟩
  refine g_if_eq C 20 dX10_drawn_5 (by decide) (fun c7 => ?_) (fun c7 => ?_)
  · have h := wp_t c7 h
    refine g_bipush C (-2 : Int32) dX10_drawn_20 rfl ?_
    exact hret _ (z1, v_failed, v_failedAt, v_frames, z2, v_margin, z3, v_seed, z4, z5, v_letters, v_starts, v_trial) _ _ _ dX10_drawn_22 h rfl
  have h := wp_f c7 h
  refine g_iload_n C 2 2 x2 dX10_drawn_8 rfl rfl ?_
  refine g_i2l C dX10_drawn_9 ?_
  refine g_lconst C (1 : Int64) dX10_drawn_10 rfl ?_
  refine g_ldc2 C (10 : Int64) wm_782 dX10_drawn_11 ?_
  refine g_callSi0 (As := [.long (Int32.toInt64 x2), .long (1 : Int64), .long (10 : Int64)]) (rest := []) C (c_X10_in l D cI cJ cZ cW (Int32.toInt64 x2) (1 : Int64) (10 : Int64) fu _ h) 3 gd_X10_53 rfl rfl rfl (by decide +kernel) ⟨Nat.le_of_ble_eq_true rfl, Nat.le_of_ble_eq_true rfl⟩ ⟨Nat.le_of_ble_eq_true rfl, Nat.le_of_ble_eq_true rfl⟩ rfl rfl (Nat.le_of_ble_eq_true rfl) [] rfl rfl dX10_drawn_14 (fun r8 h => ?_)
  obtain ⟨hzr8, h⟩ := h
  refine g_if_ne C 23 dX10_drawn_17 (by decide) (fun c9 => ?_) (fun c9 => ?_)
  rotate_left
  · have h := wp_t c9 h
    refine g_bipush C (-2 : Int32) dX10_drawn_20 rfl ?_
    exact hret _ (z1, v_failed, v_failedAt, v_frames, z2, v_margin, z3, v_seed, z4, z5, v_letters, v_starts, v_trial) _ _ _ dX10_drawn_22 h rfl
  have h := wp_f c9 h
  refine g_aload_n C 0 0 o dX10_drawn_23 rfl rfl ?_
  refine g_get C 10 ix_10 0 _ rfl rfl 2 (by decide) wm_128 rfl (.ref o_now) rfl dX10_drawn_24 ?_
  refine g_aload_n C 0 0 o dX10_drawn_27 rfl rfl ?_
  refine g_get C 10 ix_10 0 _ rfl rfl 3 (by decide) wm_129 rfl (.ref o_trial) rfl dX10_drawn_28 ?_
  refine g_callSv (As := [.ref o_now, .ref o_trial]) (rest := []) C (c_X10_copy l D cI cJ cZ cW o_now o_trial v_now v_trial fu _ h) 2 gd_X10_237 rfl rfl rfl (by decide +kernel) ⟨Nat.le_of_ble_eq_true rfl, Nat.le_of_ble_eq_true rfl⟩ ⟨Nat.le_of_ble_eq_true rfl, Nat.le_of_ble_eq_true rfl⟩ rfl rfl (Nat.le_of_ble_eq_true rfl) [3, 5] [none, none, none, some 0, none, some 1] rfl rfl rfl dX10_drawn_31 (fun u h => ?_)
  obtain ⟨z10, rfl⟩ : ∃ z, z = u := ⟨_, rfl⟩
  refine ⟨[(o, .inr (10, [.ref o_text, .int v_length, .ref o_now, .ref o_trial, .ref o_diary, .int v_acts, .int v_next, .ref o_kept, .ref o_isKept, .ref o_knownPlace, .ref o_knownLetter, .int v_known, .long v_seed, .int z5, .int z1, .int z3, .int z4, .int z2, .int v_frames, .int v_failed, .int v_failedAt, .int v_margin, .ref o_letters, .ref o_starts, .int v_bestFrames, .ref o_bestLetters, .int v_alike, .int v_fitting, .ref o_deep, .ref o_worth, .int v_readLevel, .int v_readMany, .ref o_readTicks, .int v_part, .int v_ten])), (o_deep, .inl (cI, 360, .inl v_deep)), (o_letters, .inl (cI, 64, .inl v_letters)), (o_now, .inl (cI, 361, .inl v_now)), (o_starts, .inl (cI, 64, .inl v_starts)), (o_trial, .inl (cI, 361, .inl z10))], rfl, rfl, rfl, ?_⟩
  refine g_iconst C (0 : Int32) dX10_drawn_34 rfl ?_
  refine g_istore_n C [(3, .int (0 : Int32)), (0, .ref o), (1, .int x1), (2, .int x2)] dX10_drawn_35 rfl (by decide) rfl ?_
  refine g_iconst C (0 : Int32) dX10_drawn_36 rfl ?_
  refine g_istore C [(4, .int (0 : Int32)), (3, .int (0 : Int32)), (0, .ref o), (1, .int x1), (2, .int x2)] dX10_drawn_37 (by decide) rfl ?_
  refine g_lv [2, 4, 1, 0] rfl ?_
  exact H39 fu  (0 : Int32) (0 : Int32) z1 v_failed v_failedAt v_frames z2 v_margin z3 v_seed z4 z5 v_letters v_starts z10 h
abbrev rmX10_keep : Room := { frames := 1, cells := 0, slots := 0, locals := 25 }
def wX10_keep_21 (fu : Nat) (v_now : (Nat → Int32)) (x1 : Int32) (Q : Int32 → (Nat → Int32) → (Nat → Int32) → Prop) : Nat → Int32 → (Nat → Int32) → (Nat → Int32) → Prop
  | 0, _, _, _ => False
  | n0 + 1, x2, v_isKept, v_kept => (if (361 : Int32) ≤ x2 then Q (v_now (ix (360 : Int32))) v_isKept v_kept else (vp_in x2 361 ∧ (vp_in (((361 : Int32) * x1) + x2) 722 ∧ (wX10_keep_21 fu v_now x1 Q n0) (x2 + (1 : Int32)) v_isKept (upd v_kept (ix (((361 : Int32) * x1) + x2)) (v_now (ix x2))))))
def wp_X10_keep (fu : Nat) (v_now : (Nat → Int32)) (x1 : Int32) (v_isKept : (Nat → Int32)) (v_kept : (Nat → Int32)) (Q : Int32 → (Nat → Int32) → (Nat → Int32) → Prop) : Prop := wp_X10_in fu (Int32.toInt64 x1) (0 : Int64) (1 : Int64) (fun (r1 : Int32) => (if r1 = 0 then Q (-1 : Int32) v_isKept v_kept else (vp_in x1 2 ∧ wX10_keep_21 fu v_now x1 Q fu (0 : Int32) (upd v_isKept (ix x1) (1 : Int32)) v_kept)))
set_option maxHeartbeats 4000000 in
set_option maxRecDepth 100000 in
theorem c_X10_keep (l : Launch) (D : va_G) (cI cJ cZ cW : ClassId) (o o_text o_now o_trial o_diary o_kept o_isKept o_knownPlace o_knownLetter o_letters o_starts o_bestLetters o_deep o_worth o_readTicks : Nat) (v_length : Int32) (v_acts : Int32) (v_next : Int32) (v_known : Int32) (v_seed : Int64) (v_wide : Int32) (v_bits : Int32) (v_parity : Int32) (v_stops : Int32) (v_idle : Int32) (v_frames : Int32) (v_failed : Int32) (v_failedAt : Int32) (v_margin : Int32) (v_bestFrames : Int32) (v_alike : Int32) (v_fitting : Int32) (v_readLevel : Int32) (v_readMany : Int32) (v_part : Int32) (v_ten : Int32) (v_isKept : (Nat → Int32)) (v_kept : (Nat → Int32)) (v_now : (Nat → Int32)) (x1 : Int32) (fu : Nat) (Q : Int32 → (Nat → Int32) → (Nat → Int32) → Prop) (h : wp_X10_keep fu v_now x1 v_isKept v_kept Q) : CtI l yX10_keep wkX10_keep rmX10_keep D (tys4 cI cJ cZ cW) [.ref o, .int x1] [(o, .inr (10, [.ref o_text, .int v_length, .ref o_now, .ref o_trial, .ref o_diary, .int v_acts, .int v_next, .ref o_kept, .ref o_isKept, .ref o_knownPlace, .ref o_knownLetter, .int v_known, .long v_seed, .int v_wide, .int v_bits, .int v_parity, .int v_stops, .int v_idle, .int v_frames, .int v_failed, .int v_failedAt, .int v_margin, .ref o_letters, .ref o_starts, .int v_bestFrames, .ref o_bestLetters, .int v_alike, .int v_fitting, .ref o_deep, .ref o_worth, .int v_readLevel, .int v_readMany, .ref o_readTicks, .int v_part, .int v_ten])), (o_isKept, .inl (cZ, 2, .inl v_isKept)), (o_kept, .inl (cI, 722, .inl v_kept)), (o_now, .inl (cI, 361, .inl v_now))] (fun (r : Int32) (u : (Nat → Int32) × (Nat → Int32)) => Q r u.1 u.2) (fun (u : (Nat → Int32) × (Nat → Int32)) => [(o, .inr (10, [.ref o_text, .int v_length, .ref o_now, .ref o_trial, .ref o_diary, .int v_acts, .int v_next, .ref o_kept, .ref o_isKept, .ref o_knownPlace, .ref o_knownLetter, .int v_known, .long v_seed, .int v_wide, .int v_bits, .int v_parity, .int v_stops, .int v_idle, .int v_frames, .int v_failed, .int v_failedAt, .int v_margin, .ref o_letters, .ref o_starts, .int v_bestFrames, .ref o_bestLetters, .int v_alike, .int v_fitting, .ref o_deep, .ref o_worth, .int v_readLevel, .int v_readMany, .ref o_readTicks, .int v_part, .int v_ten])), (o_isKept, .inl (cZ, 2, .inl u.1)), (o_kept, .inl (cI, 722, .inl u.2)), (o_now, .inl (cI, 361, .inl v_now))]) := by
  refine CtI.of (S := (Nat → Int32) × (Nat → Int32)) (y := yX10_keep) (Tc := wkX10_keep) (rm := rmX10_keep) (D := D) (tys := tys4 cI cJ cZ cW) (av := [.ref o, .int x1]) (wc := [(o, .inr (10, [.ref o_text, .int v_length, .ref o_now, .ref o_trial, .ref o_diary, .int v_acts, .int v_next, .ref o_kept, .ref o_isKept, .ref o_knownPlace, .ref o_knownLetter, .int v_known, .long v_seed, .int v_wide, .int v_bits, .int v_parity, .int v_stops, .int v_idle, .int v_frames, .int v_failed, .int v_failedAt, .int v_margin, .ref o_letters, .ref o_starts, .int v_bestFrames, .ref o_bestLetters, .int v_alike, .int v_fitting, .ref o_deep, .ref o_worth, .int v_readLevel, .int v_readMany, .ref o_readTicks, .int v_part, .int v_ten])), (o_isKept, .inl (cZ, 2, .inl v_isKept)), (o_kept, .inl (cI, 722, .inl v_kept)), (o_now, .inl (cI, 361, .inl v_now))]) (post := (fun (r : Int32) (u : (Nat → Int32) × (Nat → Int32)) => Q r u.1 u.2)) (w1 := (fun (u : (Nat → Int32) × (Nat → Int32)) => [(o, .inr (10, [.ref o_text, .int v_length, .ref o_now, .ref o_trial, .ref o_diary, .int v_acts, .int v_next, .ref o_kept, .ref o_isKept, .ref o_knownPlace, .ref o_knownLetter, .int v_known, .long v_seed, .int v_wide, .int v_bits, .int v_parity, .int v_stops, .int v_idle, .int v_frames, .int v_failed, .int v_failedAt, .int v_margin, .ref o_letters, .ref o_starts, .int v_bestFrames, .ref o_bestLetters, .int v_alike, .int v_fitting, .ref o_deep, .ref o_worth, .int v_readLevel, .int v_readMany, .ref o_readTicks, .int v_part, .int v_ten])), (o_isKept, .inl (cZ, 2, .inl u.1)), (o_kept, .inl (cI, 722, .inl u.2)), (o_now, .inl (cI, 361, .inl v_now))])) (cc := cX10_keep) (maxL := 3) RX10 rfl (by decide +kernel) rfl rfl [(0, .ref o), (1, .int x1)] rfl ?_
  intro p e s m args below meth c A Qm C hret
  have H21 : ∀ (n21 : Nat) (x2 : Int32) (v_isKept : (Nat → Int32)) (v_kept : (Nat → Int32)), wX10_keep_21 fu v_now x1 Q n21 x2 v_isKept v_kept → G p l e rmX10_keep s m args below meth c D A 3 0 0 Qm [(o, .inr (10, [.ref o_text, .int v_length, .ref o_now, .ref o_trial, .ref o_diary, .int v_acts, .int v_next, .ref o_kept, .ref o_isKept, .ref o_knownPlace, .ref o_knownLetter, .int v_known, .long v_seed, .int v_wide, .int v_bits, .int v_parity, .int v_stops, .int v_idle, .int v_frames, .int v_failed, .int v_failedAt, .int v_margin, .ref o_letters, .ref o_starts, .int v_bestFrames, .ref o_bestLetters, .int v_alike, .int v_fitting, .ref o_deep, .ref o_worth, .int v_readLevel, .int v_readMany, .ref o_readTicks, .int v_part, .int v_ten])), (o_isKept, .inl (cZ, 2, .inl v_isKept)), (o_kept, .inl (cI, 722, .inl v_kept)), (o_now, .inl (cI, 361, .inl v_now))] [(0, .ref o), (1, .int x1), (2, .int x2)] 21 [] := by
    intro n21
    induction n21 with
    | zero => intro x2 v_isKept v_kept h; exact False.elim h
    | succ n21 ih21 =>
      intro x2 v_isKept v_kept h
      unfold wX10_keep_21 at h
      refine g_iload_n C 2 2 x2 dX10_keep_21 rfl rfl ?_
      refine g_sipush C (361 : Int32) dX10_keep_22 rfl ?_
      refine g_icmp_ge C 52 dX10_keep_25 (by decide) (fun c4 => ?_) (fun c4 => ?_)
      · have h := wp_t c4 h
        refine g_aload_n C 0 0 o dX10_keep_52 rfl rfl ?_
        refine g_get C 10 ix_10 0 _ rfl rfl 2 (by decide) wm_128 rfl (.ref o_now) rfl dX10_keep_53 ?_
        refine g_sipush C (360 : Int32) dX10_keep_56 rfl ?_
        refine g_iald C 3 0 cI 361 v_now rfl rfl (vp_in_dec rfl) dX10_keep_59 ?_
        exact hret _ (v_isKept, v_kept) _ _ _ dX10_keep_60 h rfl
      have h := wp_f c4 h
      refine g_aload_n C 0 0 o dX10_keep_28 rfl rfl ?_
      refine g_get C 10 ix_10 0 _ rfl rfl 7 (by decide) wm_131 rfl (.ref o_kept) rfl dX10_keep_29 ?_
      refine g_sipush C (361 : Int32) dX10_keep_32 rfl ?_
      refine g_iload_n C 1 1 x1 dX10_keep_35 rfl rfl ?_
      refine g_imul C dX10_keep_36 ?_
      refine g_iload_n C 2 2 x2 dX10_keep_37 rfl rfl ?_
      refine g_iadd C dX10_keep_38 ?_
      refine g_aload_n C 0 0 o dX10_keep_39 rfl rfl ?_
      refine g_get C 10 ix_10 0 _ rfl rfl 2 (by decide) wm_128 rfl (.ref o_now) rfl dX10_keep_40 ?_
      refine g_iload_n C 2 2 x2 dX10_keep_43 rfl rfl ?_
      obtain ⟨hi5, h⟩ := h
      refine g_iald C 3 0 cI 361 v_now rfl rfl hi5 dX10_keep_44 ?_
      obtain ⟨hi6, h⟩ := h
      refine g_iast C 2 0 cI 722 v_kept rfl rfl hi6 dX10_keep_45 [(o, .inr (10, [.ref o_text, .int v_length, .ref o_now, .ref o_trial, .ref o_diary, .int v_acts, .int v_next, .ref o_kept, .ref o_isKept, .ref o_knownPlace, .ref o_knownLetter, .int v_known, .long v_seed, .int v_wide, .int v_bits, .int v_parity, .int v_stops, .int v_idle, .int v_frames, .int v_failed, .int v_failedAt, .int v_margin, .ref o_letters, .ref o_starts, .int v_bestFrames, .ref o_bestLetters, .int v_alike, .int v_fitting, .ref o_deep, .ref o_worth, .int v_readLevel, .int v_readMany, .ref o_readTicks, .int v_part, .int v_ten])), (o_isKept, .inl (cZ, 2, .inl v_isKept)), (o_kept, .inl (cI, 722, .inl (upd v_kept (ix (((361 : Int32) * x1) + x2)) (v_now (ix x2))))), (o_now, .inl (cI, 361, .inl v_now))] rfl ?_
      refine g_iinc C 2 x2 (x2 + (1 : Int32)) [(2, .int (x2 + (1 : Int32))), (0, .ref o), (1, .int x1)] dX10_keep_46 rfl rfl (by decide) rfl ?_
      refine g_goto C 21 dX10_keep_49 (by decide) ?_
      refine g_lv [1, 2, 0] rfl ?_
      exact ih21  (x2 + (1 : Int32)) v_isKept (upd v_kept (ix (((361 : Int32) * x1) + x2)) (v_now (ix x2))) h
  unfold wp_X10_keep at h
  refine g_iload_n C 1 1 x1 dX10_keep_0 rfl rfl ?_
  refine g_i2l C dX10_keep_1 ?_
  refine g_lconst C (0 : Int64) dX10_keep_2 rfl ?_
  refine g_lconst C (1 : Int64) dX10_keep_3 rfl ?_
  refine g_callSi0 (As := [.long (Int32.toInt64 x1), .long (0 : Int64), .long (1 : Int64)]) (rest := []) C (c_X10_in l D cI cJ cZ cW (Int32.toInt64 x1) (0 : Int64) (1 : Int64) fu _ h) 3 gd_X10_53 rfl rfl rfl (by decide +kernel) ⟨Nat.le_of_ble_eq_true rfl, Nat.le_of_ble_eq_true rfl⟩ ⟨Nat.le_of_ble_eq_true rfl, Nat.le_of_ble_eq_true rfl⟩ rfl rfl (Nat.le_of_ble_eq_true rfl) [] rfl rfl dX10_keep_4 (fun r1 h => ?_)
  obtain ⟨hzr1, h⟩ := h
  refine g_if_ne C 12 dX10_keep_7 (by decide) (fun c2 => ?_) (fun c2 => ?_)
  rotate_left
  · have h := wp_t c2 h
    refine g_iconst C (-1 : Int32) dX10_keep_10 rfl ?_
    exact hret _ (v_isKept, v_kept) _ _ _ dX10_keep_11 h rfl
  have h := wp_f c2 h
  refine g_aload_n C 0 0 o dX10_keep_12 rfl rfl ?_
  refine g_get C 10 ix_10 0 _ rfl rfl 8 (by decide) wm_132 rfl (.ref o_isKept) rfl dX10_keep_13 ?_
  refine g_iload_n C 1 1 x1 dX10_keep_16 rfl rfl ?_
  refine g_iconst C (1 : Int32) dX10_keep_17 rfl ?_
  obtain ⟨hi3, h⟩ := h
  refine g_zast C 1 2 cZ 2 v_isKept rfl rfl hi3 dX10_keep_18 [(o, .inr (10, [.ref o_text, .int v_length, .ref o_now, .ref o_trial, .ref o_diary, .int v_acts, .int v_next, .ref o_kept, .ref o_isKept, .ref o_knownPlace, .ref o_knownLetter, .int v_known, .long v_seed, .int v_wide, .int v_bits, .int v_parity, .int v_stops, .int v_idle, .int v_frames, .int v_failed, .int v_failedAt, .int v_margin, .ref o_letters, .ref o_starts, .int v_bestFrames, .ref o_bestLetters, .int v_alike, .int v_fitting, .ref o_deep, .ref o_worth, .int v_readLevel, .int v_readMany, .ref o_readTicks, .int v_part, .int v_ten])), (o_isKept, .inl (cZ, 2, .inl (upd v_isKept (ix x1) (1 : Int32)))), (o_kept, .inl (cI, 722, .inl v_kept)), (o_now, .inl (cI, 361, .inl v_now))] rfl ?_
  refine g_iconst C (0 : Int32) dX10_keep_19 rfl ?_
  refine g_istore_n C [(2, .int (0 : Int32)), (0, .ref o), (1, .int x1)] dX10_keep_20 rfl (by decide) rfl ?_
  refine g_lv [1, 2, 0] rfl ?_
  exact H21 fu  (0 : Int32) (upd v_isKept (ix x1) (1 : Int32)) v_kept h
abbrev rmX10_again : Room := { frames := 1, cells := 0, slots := 0, locals := 25 }
def wX10_again_26 (fu : Nat) (v_isKept : (Nat → Int32)) (v_kept : (Nat → Int32)) (x1 : Int32) (Q : Int32 → Int32 → (Nat → Int32) → Prop) : Nat → Int32 → Int32 → (Nat → Int32) → Prop
  | 0, _, _, _ => False
  | n0 + 1, x2, v_acts, v_now => (if (361 : Int32) ≤ x2 then Q (v_now (ix (360 : Int32))) (0 : Int32) v_now else (vp_in (((361 : Int32) * x1) + x2) 722 ∧ (vp_in x2 361 ∧ (wX10_again_26 fu v_isKept v_kept x1 Q n0) (x2 + (1 : Int32)) v_acts (upd v_now (ix x2) (v_kept (ix (((361 : Int32) * x1) + x2)))))))
def wp_X10_again (fu : Nat) (v_isKept : (Nat → Int32)) (v_kept : (Nat → Int32)) (x1 : Int32) (v_acts : Int32) (v_now : (Nat → Int32)) (Q : Int32 → Int32 → (Nat → Int32) → Prop) : Prop := wp_X10_in fu (Int32.toInt64 x1) (0 : Int64) (1 : Int64) (fun (r1 : Int32) => (if r1 = 0 then Q (-1 : Int32) v_acts v_now else (vp_in x1 2 ∧ (if (v_isKept (ix x1)) = 0 then Q (-3 : Int32) v_acts v_now else wX10_again_26 fu v_isKept v_kept x1 Q fu (0 : Int32) v_acts v_now))))
set_option maxHeartbeats 4000000 in
set_option maxRecDepth 100000 in
theorem c_X10_again (l : Launch) (D : va_G) (cI cJ cZ cW : ClassId) (o o_text o_now o_trial o_diary o_kept o_isKept o_knownPlace o_knownLetter o_letters o_starts o_bestLetters o_deep o_worth o_readTicks : Nat) (v_length : Int32) (v_acts : Int32) (v_next : Int32) (v_known : Int32) (v_seed : Int64) (v_wide : Int32) (v_bits : Int32) (v_parity : Int32) (v_stops : Int32) (v_idle : Int32) (v_frames : Int32) (v_failed : Int32) (v_failedAt : Int32) (v_margin : Int32) (v_bestFrames : Int32) (v_alike : Int32) (v_fitting : Int32) (v_readLevel : Int32) (v_readMany : Int32) (v_part : Int32) (v_ten : Int32) (v_isKept : (Nat → Int32)) (v_kept : (Nat → Int32)) (v_now : (Nat → Int32)) (x1 : Int32) (fu : Nat) (Q : Int32 → Int32 → (Nat → Int32) → Prop) (h : wp_X10_again fu v_isKept v_kept x1 v_acts v_now Q) : CtI l yX10_again wkX10_again rmX10_again D (tys4 cI cJ cZ cW) [.ref o, .int x1] [(o, .inr (10, [.ref o_text, .int v_length, .ref o_now, .ref o_trial, .ref o_diary, .int v_acts, .int v_next, .ref o_kept, .ref o_isKept, .ref o_knownPlace, .ref o_knownLetter, .int v_known, .long v_seed, .int v_wide, .int v_bits, .int v_parity, .int v_stops, .int v_idle, .int v_frames, .int v_failed, .int v_failedAt, .int v_margin, .ref o_letters, .ref o_starts, .int v_bestFrames, .ref o_bestLetters, .int v_alike, .int v_fitting, .ref o_deep, .ref o_worth, .int v_readLevel, .int v_readMany, .ref o_readTicks, .int v_part, .int v_ten])), (o_isKept, .inl (cZ, 2, .inl v_isKept)), (o_kept, .inl (cI, 722, .inl v_kept)), (o_now, .inl (cI, 361, .inl v_now))] (fun (r : Int32) (u : Int32 × (Nat → Int32)) => Q r u.1 u.2) (fun (u : Int32 × (Nat → Int32)) => [(o, .inr (10, [.ref o_text, .int v_length, .ref o_now, .ref o_trial, .ref o_diary, .int u.1, .int v_next, .ref o_kept, .ref o_isKept, .ref o_knownPlace, .ref o_knownLetter, .int v_known, .long v_seed, .int v_wide, .int v_bits, .int v_parity, .int v_stops, .int v_idle, .int v_frames, .int v_failed, .int v_failedAt, .int v_margin, .ref o_letters, .ref o_starts, .int v_bestFrames, .ref o_bestLetters, .int v_alike, .int v_fitting, .ref o_deep, .ref o_worth, .int v_readLevel, .int v_readMany, .ref o_readTicks, .int v_part, .int v_ten])), (o_isKept, .inl (cZ, 2, .inl v_isKept)), (o_kept, .inl (cI, 722, .inl v_kept)), (o_now, .inl (cI, 361, .inl u.2))]) := by
  refine CtI.of (S := Int32 × (Nat → Int32)) (y := yX10_again) (Tc := wkX10_again) (rm := rmX10_again) (D := D) (tys := tys4 cI cJ cZ cW) (av := [.ref o, .int x1]) (wc := [(o, .inr (10, [.ref o_text, .int v_length, .ref o_now, .ref o_trial, .ref o_diary, .int v_acts, .int v_next, .ref o_kept, .ref o_isKept, .ref o_knownPlace, .ref o_knownLetter, .int v_known, .long v_seed, .int v_wide, .int v_bits, .int v_parity, .int v_stops, .int v_idle, .int v_frames, .int v_failed, .int v_failedAt, .int v_margin, .ref o_letters, .ref o_starts, .int v_bestFrames, .ref o_bestLetters, .int v_alike, .int v_fitting, .ref o_deep, .ref o_worth, .int v_readLevel, .int v_readMany, .ref o_readTicks, .int v_part, .int v_ten])), (o_isKept, .inl (cZ, 2, .inl v_isKept)), (o_kept, .inl (cI, 722, .inl v_kept)), (o_now, .inl (cI, 361, .inl v_now))]) (post := (fun (r : Int32) (u : Int32 × (Nat → Int32)) => Q r u.1 u.2)) (w1 := (fun (u : Int32 × (Nat → Int32)) => [(o, .inr (10, [.ref o_text, .int v_length, .ref o_now, .ref o_trial, .ref o_diary, .int u.1, .int v_next, .ref o_kept, .ref o_isKept, .ref o_knownPlace, .ref o_knownLetter, .int v_known, .long v_seed, .int v_wide, .int v_bits, .int v_parity, .int v_stops, .int v_idle, .int v_frames, .int v_failed, .int v_failedAt, .int v_margin, .ref o_letters, .ref o_starts, .int v_bestFrames, .ref o_bestLetters, .int v_alike, .int v_fitting, .ref o_deep, .ref o_worth, .int v_readLevel, .int v_readMany, .ref o_readTicks, .int v_part, .int v_ten])), (o_isKept, .inl (cZ, 2, .inl v_isKept)), (o_kept, .inl (cI, 722, .inl v_kept)), (o_now, .inl (cI, 361, .inl u.2))])) (cc := cX10_again) (maxL := 3) RX10 rfl (by decide +kernel) rfl rfl [(0, .ref o), (1, .int x1)] rfl ?_
  intro p e s m args below meth c A Qm C hret
  have H26 : ∀ (n26 : Nat) (x2 : Int32) (v_acts : Int32) (v_now : (Nat → Int32)), wX10_again_26 fu v_isKept v_kept x1 Q n26 x2 v_acts v_now → G p l e rmX10_again s m args below meth c D A 3 0 0 Qm [(o, .inr (10, [.ref o_text, .int v_length, .ref o_now, .ref o_trial, .ref o_diary, .int v_acts, .int v_next, .ref o_kept, .ref o_isKept, .ref o_knownPlace, .ref o_knownLetter, .int v_known, .long v_seed, .int v_wide, .int v_bits, .int v_parity, .int v_stops, .int v_idle, .int v_frames, .int v_failed, .int v_failedAt, .int v_margin, .ref o_letters, .ref o_starts, .int v_bestFrames, .ref o_bestLetters, .int v_alike, .int v_fitting, .ref o_deep, .ref o_worth, .int v_readLevel, .int v_readMany, .ref o_readTicks, .int v_part, .int v_ten])), (o_isKept, .inl (cZ, 2, .inl v_isKept)), (o_kept, .inl (cI, 722, .inl v_kept)), (o_now, .inl (cI, 361, .inl v_now))] [(0, .ref o), (1, .int x1), (2, .int x2)] 26 [] := by
    intro n26
    induction n26 with
    | zero => intro x2 v_acts v_now h; exact False.elim h
    | succ n26 ih26 =>
      intro x2 v_acts v_now h
      unfold wX10_again_26 at h
      refine g_iload_n C 2 2 x2 dX10_again_26 rfl rfl ?_
      refine g_sipush C (361 : Int32) dX10_again_27 rfl ?_
      refine g_icmp_ge C 57 dX10_again_30 (by decide) (fun c5 => ?_) (fun c5 => ?_)
      · have h := wp_t c5 h
        refine g_aload_n C 0 0 o dX10_again_57 rfl rfl ?_
        refine g_iconst C (0 : Int32) dX10_again_58 rfl ?_
        refine g_put C 10 ix_10 0 _ rfl rfl 5 (by decide) wm_247 rfl tyX10 tyX10_ok nmX10 rfl rfl rfl (Nat.le_of_ble_eq_true rfl) dX10_again_59 [(o, .inr (10, [.ref o_text, .int v_length, .ref o_now, .ref o_trial, .ref o_diary, .int (0 : Int32), .int v_next, .ref o_kept, .ref o_isKept, .ref o_knownPlace, .ref o_knownLetter, .int v_known, .long v_seed, .int v_wide, .int v_bits, .int v_parity, .int v_stops, .int v_idle, .int v_frames, .int v_failed, .int v_failedAt, .int v_margin, .ref o_letters, .ref o_starts, .int v_bestFrames, .ref o_bestLetters, .int v_alike, .int v_fitting, .ref o_deep, .ref o_worth, .int v_readLevel, .int v_readMany, .ref o_readTicks, .int v_part, .int v_ten])), (o_isKept, .inl (cZ, 2, .inl v_isKept)), (o_kept, .inl (cI, 722, .inl v_kept)), (o_now, .inl (cI, 361, .inl v_now))] rfl ?_
        refine g_aload_n C 0 0 o dX10_again_62 rfl rfl ?_
        refine g_get C 10 ix_10 0 _ rfl rfl 2 (by decide) wm_128 rfl (.ref o_now) rfl dX10_again_63 ?_
        refine g_sipush C (360 : Int32) dX10_again_66 rfl ?_
        refine g_iald C 3 0 cI 361 v_now rfl rfl (vp_in_dec rfl) dX10_again_69 ?_
        exact hret _ ((0 : Int32), v_now) _ _ _ dX10_again_70 h rfl
      have h := wp_f c5 h
      refine g_aload_n C 0 0 o dX10_again_33 rfl rfl ?_
      refine g_get C 10 ix_10 0 _ rfl rfl 2 (by decide) wm_128 rfl (.ref o_now) rfl dX10_again_34 ?_
      refine g_iload_n C 2 2 x2 dX10_again_37 rfl rfl ?_
      refine g_aload_n C 0 0 o dX10_again_38 rfl rfl ?_
      refine g_get C 10 ix_10 0 _ rfl rfl 7 (by decide) wm_131 rfl (.ref o_kept) rfl dX10_again_39 ?_
      refine g_sipush C (361 : Int32) dX10_again_42 rfl ?_
      refine g_iload_n C 1 1 x1 dX10_again_45 rfl rfl ?_
      refine g_imul C dX10_again_46 ?_
      refine g_iload_n C 2 2 x2 dX10_again_47 rfl rfl ?_
      refine g_iadd C dX10_again_48 ?_
      obtain ⟨hi6, h⟩ := h
      refine g_iald C 2 0 cI 722 v_kept rfl rfl hi6 dX10_again_49 ?_
      obtain ⟨hi7, h⟩ := h
      refine g_iast C 3 0 cI 361 v_now rfl rfl hi7 dX10_again_50 [(o, .inr (10, [.ref o_text, .int v_length, .ref o_now, .ref o_trial, .ref o_diary, .int v_acts, .int v_next, .ref o_kept, .ref o_isKept, .ref o_knownPlace, .ref o_knownLetter, .int v_known, .long v_seed, .int v_wide, .int v_bits, .int v_parity, .int v_stops, .int v_idle, .int v_frames, .int v_failed, .int v_failedAt, .int v_margin, .ref o_letters, .ref o_starts, .int v_bestFrames, .ref o_bestLetters, .int v_alike, .int v_fitting, .ref o_deep, .ref o_worth, .int v_readLevel, .int v_readMany, .ref o_readTicks, .int v_part, .int v_ten])), (o_isKept, .inl (cZ, 2, .inl v_isKept)), (o_kept, .inl (cI, 722, .inl v_kept)), (o_now, .inl (cI, 361, .inl (upd v_now (ix x2) (v_kept (ix (((361 : Int32) * x1) + x2))))))] rfl ?_
      refine g_iinc C 2 x2 (x2 + (1 : Int32)) [(2, .int (x2 + (1 : Int32))), (0, .ref o), (1, .int x1)] dX10_again_51 rfl rfl (by decide) rfl ?_
      refine g_goto C 26 dX10_again_54 (by decide) ?_
      refine g_lv [1, 2, 0] rfl ?_
      exact ih26  (x2 + (1 : Int32)) v_acts (upd v_now (ix x2) (v_kept (ix (((361 : Int32) * x1) + x2)))) h
  unfold wp_X10_again at h
  refine g_iload_n C 1 1 x1 dX10_again_0 rfl rfl ?_
  refine g_i2l C dX10_again_1 ?_
  refine g_lconst C (0 : Int64) dX10_again_2 rfl ?_
  refine g_lconst C (1 : Int64) dX10_again_3 rfl ?_
  refine g_callSi0 (As := [.long (Int32.toInt64 x1), .long (0 : Int64), .long (1 : Int64)]) (rest := []) C (c_X10_in l D cI cJ cZ cW (Int32.toInt64 x1) (0 : Int64) (1 : Int64) fu _ h) 3 gd_X10_53 rfl rfl rfl (by decide +kernel) ⟨Nat.le_of_ble_eq_true rfl, Nat.le_of_ble_eq_true rfl⟩ ⟨Nat.le_of_ble_eq_true rfl, Nat.le_of_ble_eq_true rfl⟩ rfl rfl (Nat.le_of_ble_eq_true rfl) [] rfl rfl dX10_again_4 (fun r1 h => ?_)
  obtain ⟨hzr1, h⟩ := h
  refine g_if_ne C 12 dX10_again_7 (by decide) (fun c2 => ?_) (fun c2 => ?_)
  rotate_left
  · have h := wp_t c2 h
    refine g_iconst C (-1 : Int32) dX10_again_10 rfl ?_
    exact hret _ (v_acts, v_now) _ _ _ dX10_again_11 h rfl
  have h := wp_f c2 h
  refine g_aload_n C 0 0 o dX10_again_12 rfl rfl ?_
  refine g_get C 10 ix_10 0 _ rfl rfl 8 (by decide) wm_132 rfl (.ref o_isKept) rfl dX10_again_13 ?_
  refine g_iload_n C 1 1 x1 dX10_again_16 rfl rfl ?_
  obtain ⟨hi3, h⟩ := h
  refine g_zald C 1 2 cZ 2 v_isKept rfl rfl hi3 dX10_again_17 ?_
  refine g_if_ne C 24 dX10_again_18 (by decide) (fun c4 => ?_) (fun c4 => ?_)
  rotate_left
  · have h := wp_t c4 h
    refine g_bipush C (-3 : Int32) dX10_again_21 rfl ?_
    exact hret _ (v_acts, v_now) _ _ _ dX10_again_23 h rfl
  have h := wp_f c4 h
  refine g_iconst C (0 : Int32) dX10_again_24 rfl ?_
  refine g_istore_n C [(2, .int (0 : Int32)), (0, .ref o), (1, .int x1)] dX10_again_25 rfl (by decide) rfl ?_
  refine g_lv [1, 2, 0] rfl ?_
  exact H26 fu  (0 : Int32) v_acts v_now h
