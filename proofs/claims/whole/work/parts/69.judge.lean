/-! doings judged -/
theorem inL_ok {fu : Nat} {x l h : Int64} {Q : Int32 → Prop} (h1 : l.toInt ≤ x.toInt ∧ x.toInt ≤ h.toInt → Q 1) (h0 : ¬ (l.toInt ≤ x.toInt ∧ x.toInt ≤ h.toInt) → Q 0) : wp_X10_in fu x l h Q := by
  unfold wp_X10_in
  refine wif (fun c => h0 ?_) (fun c => wif (fun c2 => h0 ?_) (fun c2 => h1 ?_))
  · rw [lg_cmp_lt, Int64.lt_iff_toInt_lt] at c
    omega
  · rw [lg_cmp_gt, Int64.lt_iff_toInt_lt] at c2
    omega
  · rw [lg_cmp_lt, Int64.lt_iff_toInt_lt] at c
    rw [lg_cmp_gt, Int64.lt_iff_toInt_lt] at c2
    omega
theorem wld_lp {fu R m : Nat} {x0 : Int64} {Q : Int64 → Prop} (hR : R < 2 ^ 63) (hm : m ≤ 100) (h : Q (lN (R / 10000 ^ m))) : ∀ (j fuel k : Nat), k + j = m → j < fuel → wX9_withoutLastDoings_5 fu x0 (nI m) Q fuel (lN (R / 10000 ^ k)) (nI k) := by
  intro j
  induction j with
  | zero =>
    intro fuel k hk hf
    obtain ⟨f, rfl⟩ : ∃ f, fuel = f + 1 := ⟨fuel - 1, by omega⟩
    obtain rfl : k = m := by omega
    unfold wX9_withoutLastDoings_5
    exact wifp (by rw [nI_leI (by omega) (by omega)]; omega) h
  | succ j ih =>
    intro fuel k hk hf
    obtain ⟨f, rfl⟩ : ∃ f, fuel = f + 1 := ⟨fuel - 1, by omega⟩
    unfold wX9_withoutLastDoings_5
    refine wifn (by rw [nI_leI (by omega) (by omega)]; omega) (fun y ey => ?_)
    have hle : R / 10000 ^ k ≤ R := Nat.div_le_self _ _
    rw [show (10000 : Int64) = lN 10000 from rfl, pk_lDiv (by omega) (by omega) (by omega), Nat.div_div_eq_div_mul, ← Nat.pow_succ] at ey
    subst ey
    rw [show (1 : Int32) = nI 1 from rfl, nI_add]
    exact ih f (k + 1) (by omega) (by omega)
theorem wld_ok {fu R m : Nat} {Q : Int64 → Prop} (hfu : 400 ≤ fu) (hR : R < 2 ^ 63) (hm : m ≤ 100) (h : Q (lN (R / 10000 ^ m))) : wp_X9_withoutLastDoings fu (lN R) (nI m) Q := by
  have g := wld_lp (fu := fu) (x0 := lN R) hR hm h m fu 0 (by omega) (by omega)
  rw [Nat.pow_zero, Nat.div_one] at g
  exact g
theorem tth_lp {fu m : Nat} {Q : Int64 → Prop} (hm : m ≤ 100) (h : Q (lN (10000 ^ m))) : ∀ (j fuel k : Nat), k + j = m → j < fuel → wX10_tenThousands_4 fu (nI m) Q fuel (lN (10000 ^ k)) (nI k) := by
  intro j
  induction j with
  | zero =>
    intro fuel k hk hf
    obtain ⟨f, rfl⟩ : ∃ f, fuel = f + 1 := ⟨fuel - 1, by omega⟩
    obtain rfl : k = m := by omega
    unfold wX10_tenThousands_4
    exact wifp (by rw [nI_leI (by omega) (by omega)]; omega) h
  | succ j ih =>
    intro fuel k hk hf
    obtain ⟨f, rfl⟩ : ∃ f, fuel = f + 1 := ⟨fuel - 1, by omega⟩
    unfold wX10_tenThousands_4
    refine wifn (by rw [nI_leI (by omega) (by omega)]; omega) (fun y ey => ?_)
    rw [show (10000 : Int64) = lN 10000 from rfl, lN_mul, ← Nat.pow_succ] at ey
    subst ey
    rw [show (1 : Int32) = nI 1 from rfl, nI_add]
    exact ih f (k + 1) (by omega) (by omega)
theorem tth_ok {fu m : Nat} {Q : Int64 → Prop} (hfu : 400 ≤ fu) (hm : m ≤ 100) (h : Q (lN (10000 ^ m))) : wp_X10_tenThousands fu (nI m) Q :=
  tth_lp hm h m fu 0 (by omega) (by omega)
theorem nI_bt {j : Nat} (h : j ≤ 1) : nI j = 0 ∨ nI j = 1 := by
  rcases (show j = 0 ∨ j = 1 by omega) with rfl | rfl
  · exact Or.inl rfl
  · exact Or.inr rfl
theorem BI_first {L : Nat → Int32} {t : Nat} {o : Option Nat} {best bf bm best2 bf2 bm2 : Int32} {bl bl2 : Nat → Int32} (h : BI L t o best bf bm bl) (h2 : BI L t o best2 bf2 bm2 bl2) (hn : ¬ oc o = -9) : bl 0 = bl2 0 := by
  cases o with
  | none => exact absurd rfl hn
  | some j =>
    obtain ⟨-, hf, -, -, -, e⟩ := h
    obtain ⟨-, -, -, -, -, e2⟩ := h2
    have hl : 0 < (RK L t j).1.length := Nat.pos_of_ne_zero hf.2
    rw [e 0 _ (List.getElem?_eq_getElem hl), e2 0 _ (List.getElem?_eq_getElem hl)]
theorem isSo_both {fu k w t : Nat} {L tl : Nat → Int32} {c0 : Int32} {c1 : Int32} {c2 : Int32} {c3 : Int32} {c4 : (Nat → Int32)} {c5 : Int32} {c6 : Int32} {c7 : Int32} {c8 : Int32} {c9 : Int32} {c10 : Int32} {c11 : Int32} {c12 : Int32} {c13 : Int32} {c14 : (Nat → Int32)} {c15 : Int32} {c16 : Int32} {c17 : (Nat → Int32)} {c18 : (Nat → Int32)} {c19 : (Nat → Int32)} {Qc : Int32 → Int32 → Int32 → Int32 → Int32 → (Nat → Int32) → Int32 → Int32 → Int32 → Int32 → Int32 → Int32 → Int32 → Int32 → Int32 → (Nat → Int32) → Int32 → Int32 → (Nat → Int32) → (Nat → Int32) → (Nat → Int32) → Int32 → (Nat → Int32) → Prop} (hfu : 1000 ≤ fu) (hk : k < 10) (hw3 : w < 1000) (hw : CW tl (nI t) L t) (hb : Bt L t)
    (h : ∀ (L1 : Nat → Int32) (t1 : Nat) (r : Int32) (d0 : Int32) (d1 : Int32) (d2 : Int32) (d3 : Int32) (d4 : (Nat → Int32)) (d5 : Int32) (d6 : Int32) (d7 : Int32) (d8 : Int32) (d9 : Int32) (d10 : Int32) (d11 : Int32) (d12 : Int32) (d13 : Int32) (d14 : (Nat → Int32)) (d15 : Int32) (d16 : Int32) (d17 : (Nat → Int32)) (d18 : (Nat → Int32)) (d19 : (Nat → Int32)) (tl1 : Nat → Int32), CW tl1 (nI t1) L1 t1 → Bt L1 t1 → (∀ (K : Int32 → Int32 → Int32 → Int32 → Int32 → Int32 → Int32 → Int32 → Int32 → Int32 → Int32 → Int32 → (Nat → Int32) → (Nat → Int32) → (Nat → Int32) → (Nat → Int32) → (Nat → Int32) → Prop) (tr : Nat → Int32) (m0 : Int32) (m1 : Int32) (m2 : Int32) (m3 : Int32) (m4 : Int32) (m5 : Int32) (m6 : Int32) (m7 : Int32) (m8 : Int32) (m9 : Int32) (m10 : Int32) (m11 : (Nat → Int32)) (m12 : (Nat → Int32)) (m13 : (Nat → Int32)) (m14 : (Nat → Int32)), MW tr L t → (∀ (n0 : Int32) (n1 : Int32) (n2 : Int32) (n3 : Int32) (n4 : Int32) (n5 : Int32) (n6 : Int32) (n7 : Int32) (n8 : Int32) (n9 : Int32) (n10 : Int32) (n11 : (Nat → Int32)) (n12 : (Nat → Int32)) (n13 : (Nat → Int32)) (n14 : (Nat → Int32)) (tr1 : Nat → Int32), MW tr1 L1 t1 → K r n0 n1 n2 n3 n4 n5 n6 n7 n8 n9 n10 n11 n12 n13 n14 tr1) → wp_X10_judged fu (nI k) (nI w) m0 m1 m2 m3 m4 m5 m6 m7 m8 m9 m10 m11 m12 m13 m14 tr K) → Qc r d0 d1 d2 d3 d4 d5 d6 d7 d8 d9 d10 d11 d12 d13 d14 d15 d16 d17 d18 d19 (nI t1) tl1) : wp_X9_isSo fu (nI k) (nI w) c0 c1 c2 c3 c4 c5 c6 c7 c8 c9 c10 c11 c12 c13 c14 c15 c16 c17 c18 c19 (nI t) tl Qc := by
  have ht := hw.2.1
  have e10 : (10 : Int32) = nI 10 := rfl
  have e100 : (100 : Int32) = nI 100 := rfl
  have e1 : (1 : Int32) = nI 1 := rfl
  have e360 : (360 : Int32) = nI 360 := rfl
  have ix360 : ix (360 : Int32) = 360 := rfl
  unfold wp_X9_isSo
  by_cases k1 : k = 1
  · subst k1
    refine wifp rfl ?_
    unfold wp_X9_couldHear
    rw [e100, nI_div (by omega) (by omega) (by omega), irm_nI (by omega) (by omega) (by omega)]
    refine isLevel_ok (fun g1 => wifn (by decide) ?_) (fun g1 => wifp rfl ?_)
    · have g1' : w / 100 ≤ 1 := by
        obtain ⟨j, -, j2, e⟩ := g1
        have := nI_inj (by omega) (by omega) e
        omega
      refine wif (fun g2 => ?_) (fun g2 => ?_) <;> rw [e1, nI_ltI (by omega) (by omega)] at g2
      · apply h L t
        · exact hw
        · exact hb
        · intro K tr m0 m1 m2 m3 m4 m5 m6 m7 m8 m9 m10 m11 m12 m13 m14 hm hK
          unfold wp_X10_judged
          intro y1 ey1 y2 ey2
          rw [e100, nI_div (by omega) (by omega) (by omega)] at ey1
          rw [e100, irm_nI (by omega) (by omega) (by omega)] at ey2
          subst ey1 ey2
          refine wifp rfl ?_
          refine wifn (by rw [e1, nI_ltI (by omega) (by omega)]; omega) (wifp (by rw [show w % 100 = 0 by omega]; rfl) ?_)
          exact hK _ _ _ _ _ _ _ _ _ _ _ _ _ _ _ _ hm
      · refine hasPlaceFor_ok ht (by omega) (fun g3 => wifn (by decide) ?_) (fun g3 => wifp rfl ?_)
        · refine extend_ok (by omega) hw g3 (fun lev1 hw1 => ?_)
          apply h (xt L t (nI (w / 100))) (t + w % 100)
          · exact hw1
          · exact Bt_xt hb (nI_bt g1')
          · intro K tr m0 m1 m2 m3 m4 m5 m6 m7 m8 m9 m10 m11 m12 m13 m14 hm hK
            unfold wp_X10_judged
            intro y1 ey1 y2 ey2
            rw [e100, nI_div (by omega) (by omega) (by omega)] at ey1
            rw [e100, irm_nI (by omega) (by omega) (by omega)] at ey2
            subst ey1 ey2
            refine wifp rfl ?_
            refine wifn (by rw [e1, nI_ltI (by omega) (by omega)]; omega) (wifn (by rw [show (0 : Int32) = nI 0 from rfl, nI_eq (by omega) (by omega)]; omega) ?_)
            rw [ix360, hm.1, nI_add, e360]
            refine wifp (by rw [nI_leI (by omega) (by omega)]; omega) ?_
            exact hearOn_ok (by omega) hm g3 (fun r1 hr1 => hK _ _ _ _ _ _ _ _ _ _ _ _ _ _ _ _ hr1)
        · apply h L t
          · exact hw
          · exact hb
          · intro K tr m0 m1 m2 m3 m4 m5 m6 m7 m8 m9 m10 m11 m12 m13 m14 hm hK
            unfold wp_X10_judged
            intro y1 ey1 y2 ey2
            rw [e100, nI_div (by omega) (by omega) (by omega)] at ey1
            rw [e100, irm_nI (by omega) (by omega) (by omega)] at ey2
            subst ey1 ey2
            refine wifp rfl ?_
            refine wifn (by rw [e1, nI_ltI (by omega) (by omega)]; omega) (wifn (by rw [show (0 : Int32) = nI 0 from rfl, nI_eq (by omega) (by omega)]; omega) ?_)
            rw [ix360, hm.1, nI_add, e360]
            exact wifn (by rw [nI_leI (by omega) (by omega)]; omega) (hK _ _ _ _ _ _ _ _ _ _ _ _ _ _ _ _ hm)
    · apply h L t
      · exact hw
      · exact hb
      · intro K tr m0 m1 m2 m3 m4 m5 m6 m7 m8 m9 m10 m11 m12 m13 m14 hm hK
        unfold wp_X10_judged
        intro y1 ey1 y2 ey2
        rw [e100, nI_div (by omega) (by omega) (by omega)] at ey1
        rw [e100, irm_nI (by omega) (by omega) (by omega)] at ey2
        subst ey1 ey2
        refine wifp rfl ?_
        have g1' : ¬ w / 100 ≤ 1 := fun q => g1 ⟨w / 100, by omega, q, rfl⟩
        exact wifp (by rw [e1, nI_ltI (by omega) (by omega)]; omega) (hK _ _ _ _ _ _ _ _ _ _ _ _ _ _ _ _ hm)
  by_cases k2 : k = 2
  · subst k2
    refine wifn (by decide) (wifp rfl ?_)
    unfold wp_X9_couldFlip
    refine has_any ht (fun j hj e => wifn (by decide) ?_) (fun g => wifp rfl ?_)
    · obtain rfl : w = j := nI_inj (by omega) (by omega) e
      refine turnOver_ok hw hj (fun lev1 hw1 => ?_)
      apply h (fl L w) t
      · exact hw1
      · exact Bt_fl hb
      · intro K tr m0 m1 m2 m3 m4 m5 m6 m7 m8 m9 m10 m11 m12 m13 m14 hm hK
        unfold wp_X10_judged
        intro y1 ey1 y2 ey2
        rw [e100, nI_div (by omega) (by omega) (by omega)] at ey1
        rw [e100, irm_nI (by omega) (by omega) (by omega)] at ey2
        subst ey1 ey2
        refine wifn (by decide) ?_
        refine wifp rfl ?_
        refine isTick_any hm (fun _ _ _ => wifn (by decide) ?_) (fun g => absurd ⟨w, hj, rfl⟩ g)
        have hv : vp_in (nI w) 361 := vin (by omega) (by omega)
        refine ⟨hv, hv, hK _ _ _ _ _ _ _ _ _ _ _ _ _ _ _ _ ⟨?_, ht, fun i hi => ?_⟩⟩
        · rw [ix_nI (by omega), upd_n (by omega)]; exact hm.1
        · rw [ix_nI (by omega), upd_ite, fl]
          by_cases e : i = w
          · rw [if_pos e, if_pos e, e, hm.2.2 w hj]
          · rw [if_neg e, if_neg e, hm.2.2 i hi]
    · apply h L t
      · exact hw
      · exact hb
      · intro K tr m0 m1 m2 m3 m4 m5 m6 m7 m8 m9 m10 m11 m12 m13 m14 hm hK
        unfold wp_X10_judged
        intro y1 ey1 y2 ey2
        rw [e100, nI_div (by omega) (by omega) (by omega)] at ey1
        rw [e100, irm_nI (by omega) (by omega) (by omega)] at ey2
        subst ey1 ey2
        refine wifn (by decide) ?_
        refine wifp rfl ?_
        exact isTick_any hm (fun j hj e => absurd ⟨j, hj, e⟩ g) (fun _ => wifp rfl (hK _ _ _ _ _ _ _ _ _ _ _ _ _ _ _ _ hm))
  by_cases k3 : k = 3
  · subst k3
    refine wifn (by decide) (wifn (by decide) (wifp rfl ?_))
    refine listenTo_ok (by omega) hw (fun fi la hr => ?_)
    refine edgesC_ok (by have := rc_le L t; omega) ?_
    refine wif (fun g => ?_) (fun g => ?_)
    · apply h L t
      · exact hw
      · exact hb
      · intro K tr m0 m1 m2 m3 m4 m5 m6 m7 m8 m9 m10 m11 m12 m13 m14 hm hK
        unfold wp_X10_judged
        intro y1 ey1 y2 ey2
        rw [e100, nI_div (by omega) (by omega) (by omega)] at ey1
        rw [e100, irm_nI (by omega) (by omega) (by omega)] at ey2
        subst ey1 ey2
        refine wifn (by decide) ?_
        refine wifn (by decide) ?_
        refine wifp rfl ?_
        exact edgesM_ok (by omega) hm (wifp g (hK _ _ _ _ _ _ _ _ _ _ _ _ _ _ _ _ hm))
    · apply h L t
      · exact hw
      · exact hb
      · intro K tr m0 m1 m2 m3 m4 m5 m6 m7 m8 m9 m10 m11 m12 m13 m14 hm hK
        unfold wp_X10_judged
        intro y1 ey1 y2 ey2
        rw [e100, nI_div (by omega) (by omega) (by omega)] at ey1
        rw [e100, irm_nI (by omega) (by omega) (by omega)] at ey2
        subst ey1 ey2
        refine wifn (by decide) ?_
        refine wifn (by decide) ?_
        refine wifp rfl ?_
        exact edgesM_ok (by omega) hm (wifn g (hK _ _ _ _ _ _ _ _ _ _ _ _ _ _ _ _ hm))
  by_cases k4 : k = 4
  · subst k4
    refine wifn (by decide) (wifn (by decide) (wifn (by decide) (wifp rfl ?_)))
    unfold wp_X9_couldCut
    by_cases g2 : RG 1 t (nI w)
    · have g3 : 1 ≤ w ∧ w ≤ t := by
        obtain ⟨j, j1, j2, e⟩ := g2
        have := nI_inj (by omega) (by omega) e
        omega
      refine wifn (by rw [e1, nI_ltI (by omega) (by omega)]; omega) (wifp (by rw [nI_leI (by omega) (by omega)]; omega) ?_)
      refine shorten_ok ht (by omega) ?_
      apply h L (t - w)
      · exact ⟨rfl, by omega, fun i hi => hw.2.2 i (by omega)⟩
      · exact fun i hi => hb i (by omega)
      · intro K tr m0 m1 m2 m3 m4 m5 m6 m7 m8 m9 m10 m11 m12 m13 m14 hm hK
        unfold wp_X10_judged
        intro y1 ey1 y2 ey2
        rw [e100, nI_div (by omega) (by omega) (by omega)] at ey1
        rw [e100, irm_nI (by omega) (by omega) (by omega)] at ey2
        subst ey1 ey2
        refine wifn (by decide) ?_
        refine wifn (by decide) ?_
        refine wifn (by decide) ?_
        refine wifp rfl ?_
        rw [ix360, hm.1]
        refine inr_ok (lo := 1) (hi := t) (by omega) rfl (i64_nI (by omega)) (fun _ => wifn (by decide) ?_) (fun g => absurd g2 g)
        exact cutOn_ok (by omega) hm g3.2 (fun r1 hr1 => hK _ _ _ _ _ _ _ _ _ _ _ _ _ _ _ _ hr1)
    · have b : ∀ x0 x1 x2 x3 x4 x5 x6 x7 x8 x9 x10 x11 x12 x13 x14 x15 x16 x17 x18 x19, Qc 0 x0 x1 x2 x3 x4 x5 x6 x7 x8 x9 x10 x11 x12 x13 x14 x15 x16 x17 x18 x19 (nI t) tl := by
        intro x0 x1 x2 x3 x4 x5 x6 x7 x8 x9 x10 x11 x12 x13 x14 x15 x16 x17 x18 x19
        apply h L t
        · exact hw
        · exact hb
        · intro K tr m0 m1 m2 m3 m4 m5 m6 m7 m8 m9 m10 m11 m12 m13 m14 hm hK
          unfold wp_X10_judged
          intro y1 ey1 y2 ey2
          rw [e100, nI_div (by omega) (by omega) (by omega)] at ey1
          rw [e100, irm_nI (by omega) (by omega) (by omega)] at ey2
          subst ey1 ey2
          refine wifn (by decide) ?_
          refine wifn (by decide) ?_
          refine wifn (by decide) ?_
          refine wifp rfl ?_
          rw [ix360, hm.1]
          exact inr_ok (lo := 1) (hi := t) (by omega) rfl (i64_nI (by omega)) (fun g => absurd g g2) (fun _ => wifp rfl (hK _ _ _ _ _ _ _ _ _ _ _ _ _ _ _ _ hm))
      refine wif (fun _ => ?_) (fun c => wifn (fun c2 => ?_) ?_)
      · apply b
      · exact nlt_le.mpr c2 (rg_lo (by omega) (by omega) g2 c)
      · apply b
  by_cases k5 : k = 5
  · subst k5
    refine wifn (by decide) (wifn (by decide) (wifn (by decide) (wifn (by decide) (wifp rfl ?_))))
    unfold wp_X9_isBestBit
    rw [e10, nI_div (by omega) (by omega) (by omega), irm_nI (by omega) (by omega) (by omega)]
    have mod5 : ∀ r : Int32, (r = if w % 10 < 2 then (if ((¬ oc (bst L t 768) = -9) ∧ oc (bst L t 768) / 10000 = nI (w / 10)) ↔ w % 10 = 1 then 1 else 0) else 0) → (∀ (K : Int32 → Int32 → Int32 → Int32 → Int32 → Int32 → Int32 → Int32 → Int32 → Int32 → Int32 → Int32 → (Nat → Int32) → (Nat → Int32) → (Nat → Int32) → (Nat → Int32) → (Nat → Int32) → Prop) (tr : Nat → Int32) (m0 : Int32) (m1 : Int32) (m2 : Int32) (m3 : Int32) (m4 : Int32) (m5 : Int32) (m6 : Int32) (m7 : Int32) (m8 : Int32) (m9 : Int32) (m10 : Int32) (m11 : (Nat → Int32)) (m12 : (Nat → Int32)) (m13 : (Nat → Int32)) (m14 : (Nat → Int32)), MW tr L t → (∀ (n0 : Int32) (n1 : Int32) (n2 : Int32) (n3 : Int32) (n4 : Int32) (n5 : Int32) (n6 : Int32) (n7 : Int32) (n8 : Int32) (n9 : Int32) (n10 : Int32) (n11 : (Nat → Int32)) (n12 : (Nat → Int32)) (n13 : (Nat → Int32)) (n14 : (Nat → Int32)) (tr1 : Nat → Int32), MW tr1 L t → K r n0 n1 n2 n3 n4 n5 n6 n7 n8 n9 n10 n11 n12 n13 n14 tr1) → wp_X10_judged fu (nI 5) (nI w) m0 m1 m2 m3 m4 m5 m6 m7 m8 m9 m10 m11 m12 m13 m14 tr K) := by
      intro r er
      intro K tr m0 m1 m2 m3 m4 m5 m6 m7 m8 m9 m10 m11 m12 m13 m14 hm hK
      unfold wp_X10_judged
      intro y1 ey1 y2 ey2
      rw [e100, nI_div (by omega) (by omega) (by omega)] at ey1
      rw [e100, irm_nI (by omega) (by omega) (by omega)] at ey2
      subst ey1 ey2
      refine wifn (by decide) ?_
      refine wifn (by decide) ?_
      refine wifn (by decide) ?_
      refine wifn (by decide) ?_
      refine wifp rfl ?_
      refine best_ok hfu hm (fun de best2 bf2 bm2 bl2 q1 q2 q3 q5 q6 q7 q8 q9 q10 le2 st2 hd2 hbi2 => ?_)
      have eb := BI_best hbi2
      subst eb
      have f5 : ∀ k0 : Int32, (k0 = if (¬ oc (bst L t 768) = -9) ∧ oc (bst L t 768) / 10000 = nI (w / 10) then 1 else 0) → ∀ x0 x1 x2 x3 x4 x5 x6 x7 x8 x9 x10 x11 x12 x13 x14, wX10_judged_204 fu (nI 5) (nI w) K k0 x0 x1 x2 x3 x4 x5 x6 x7 x8 x9 x10 x11 x12 x13 x14 tr := by
        intro k0 ek0 x0 x1 x2 x3 x4 x5 x6 x7 x8 x9 x10 x11 x12 x13 x14
        unfold wX10_judged_204 wX10_judged_229
        rw [e10, irm_nI (by omega) (by omega) (by omega)]
        refine wif (fun g => ?_) (fun g => ?_) <;> rw [show (2 : Int32) = nI 2 from rfl, nI_leI (by omega) (by omega)] at g
        · rw [if_neg (by omega)] at er
          rw [← er]
          exact hK _ _ _ _ _ _ _ _ _ _ _ _ _ _ _ _ hm
        · rw [if_pos (by omega)] at er
          by_cases q : (¬ oc (bst L t 768) = -9) ∧ oc (bst L t 768) / 10000 = nI (w / 10)
          · rw [if_pos q] at ek0
            subst ek0
            refine wif (fun g1 => ?_) (fun g1 => ?_) <;> rw [e1, nI_eq (by omega) (by omega)] at g1
            · refine wifp rfl ?_
              rw [if_pos (iff_of_true q g1)] at er
              rw [← er]; exact hK _ _ _ _ _ _ _ _ _ _ _ _ _ _ _ _ hm
            · refine wifn (by decide) ?_
              rw [if_neg (fun q2 => g1 (q2.mp q))] at er
              rw [← er]; exact hK _ _ _ _ _ _ _ _ _ _ _ _ _ _ _ _ hm
          · rw [if_neg q] at ek0
            subst ek0
            refine wif (fun g1 => ?_) (fun g1 => ?_) <;> rw [e1, nI_eq (by omega) (by omega)] at g1
            · refine wifn (by decide) ?_
              rw [if_neg (fun q2 => q (q2.mpr g1))] at er
              rw [← er]; exact hK _ _ _ _ _ _ _ _ _ _ _ _ _ _ _ _ hm
            · refine wifp rfl ?_
              rw [if_pos (iff_of_false q g1)] at er
              rw [← er]; exact hK _ _ _ _ _ _ _ _ _ _ _ _ _ _ _ _ hm
      refine wif (fun g => ?_) (fun g => ?_)
      · unfold wX10_judged_203
        exact f5 0 (by rw [if_neg (fun q => q.1 g)]) _ _ _ _ _ _ _ _ _ _ _ _ _ _ _
      · rw [e10, nI_div (by omega) (by omega) (by omega)]
        refine wif (fun g1 => ?_) (fun g1 => ?_)
        · exact f5 1 (by rw [if_pos ⟨g, g1⟩]) _ _ _ _ _ _ _ _ _ _ _ _ _ _ _
        · unfold wX10_judged_203
          exact f5 0 (by rw [if_neg (fun q => g1 q.2)]) _ _ _ _ _ _ _ _ _ _ _ _ _ _ _
    have cl5 : w % 10 < 2 → wX9_isBestBit_11 fu (nI t) tl (nI (w / 10)) (nI (w % 10)) (fun r34 x0 x1 x2 x3 x4 x5 x6 x7 x8 x9 x10 x11 x12 x13 x14 x15 x16 x17 x18 x19 => Qc r34 x0 x1 x2 x3 x4 x5 x6 x7 x8 x9 x10 x11 x12 x13 x14 x15 x16 x17 x18 x19 (nI t) tl) c0 c1 c2 c3 c4 c5 c6 c7 c8 c9 c10 c11 c12 c13 c14 c15 c16 c17 c18 c19 := by
      intro g2
      unfold wX9_isBestBit_11
      refine rank_ok hfu hw hb (fun fi la best bf bm bl tb td ti tp ts fs fl fr mg le st hr hbi => ?_)
      have eb := BI_best hbi
      subst eb
      have f5 : ∀ k0 : Int32, (k0 = if (¬ oc (bst L t 768) = -9) ∧ oc (bst L t 768) / 10000 = nI (w / 10) then 1 else 0) → ∀ x0 x1 x2 x3 x4 x5 x6 x7 x8 x9 x10 x11 x12 x13 x14 x15 x16 x17 x18 x19, wX9_isBestBit_58 fu (nI t) tl (nI (w / 10)) (nI (w % 10)) (fun r34 x0 x1 x2 x3 x4 x5 x6 x7 x8 x9 x10 x11 x12 x13 x14 x15 x16 x17 x18 x19 => Qc r34 x0 x1 x2 x3 x4 x5 x6 x7 x8 x9 x10 x11 x12 x13 x14 x15 x16 x17 x18 x19 (nI t) tl) k0 x0 x1 x2 x3 x4 x5 x6 x7 x8 x9 x10 x11 x12 x13 x14 x15 x16 x17 x18 x19 := by
        intro k0 ek0 x0 x1 x2 x3 x4 x5 x6 x7 x8 x9 x10 x11 x12 x13 x14 x15 x16 x17 x18 x19
        have fin : ∀ r : Int32, (r = if ((¬ oc (bst L t 768) = -9) ∧ oc (bst L t 768) / 10000 = nI (w / 10)) ↔ w % 10 = 1 then 1 else 0) → Qc r x0 x1 x2 x3 x4 x5 x6 x7 x8 x9 x10 x11 x12 x13 x14 x15 x16 x17 x18 x19 (nI t) tl := by
          intro r er
          apply h L t
          · exact hw
          · exact hb
          · exact mod5 r (by rw [if_pos g2]; exact er)
        unfold wX9_isBestBit_58 wX9_isBestBit_70
        by_cases q : (¬ oc (bst L t 768) = -9) ∧ oc (bst L t 768) / 10000 = nI (w / 10)
        · rw [if_pos q] at ek0
          subst ek0
          refine wif (fun g1 => ?_) (fun g1 => ?_) <;> rw [e1, nI_eq (by omega) (by omega)] at g1
          · exact wifp rfl (fin 1 (by rw [if_pos (iff_of_true q g1)]))
          · exact wifn (by decide) (fin 0 (by rw [if_neg (fun q2 => g1 (q2.mp q))]))
        · rw [if_neg q] at ek0
          subst ek0
          refine wif (fun g1 => ?_) (fun g1 => ?_) <;> rw [e1, nI_eq (by omega) (by omega)] at g1
          · exact wifn (by decide) (fin 0 (by rw [if_neg (fun q2 => q (q2.mpr g1))]))
          · exact wifp rfl (fin 1 (by rw [if_pos (iff_of_false q g1)]))
      refine wif (fun g => ?_) (fun g => ?_)
      · unfold wX9_isBestBit_57
        exact f5 0 (by rw [if_neg (fun q => q.1 g)]) _ _ _ _ _ _ _ _ _ _ _ _ _ _ _ _ _ _ _ _
      · refine wif (fun g1 => ?_) (fun g1 => ?_)
        · exact f5 1 (by rw [if_pos ⟨g, g1⟩]) _ _ _ _ _ _ _ _ _ _ _ _ _ _ _ _ _ _ _ _
        · unfold wX9_isBestBit_57
          exact f5 0 (by rw [if_neg (fun q => g1 q.2)]) _ _ _ _ _ _ _ _ _ _ _ _ _ _ _ _ _ _ _ _
    refine wif (fun g => ?_) (fun g => wif (fun g1 => ?_) (fun g1 => ?_))
    · rw [show (0 : Int32) = nI 0 from rfl, nI_eq (by omega) (by omega)] at g
      exact cl5 (by omega)
    · rw [e1, nI_eq (by omega) (by omega)] at g1
      exact cl5 (by omega)
    · rw [show (0 : Int32) = nI 0 from rfl, nI_eq (by omega) (by omega)] at g
      rw [e1, nI_eq (by omega) (by omega)] at g1
      apply h L t
      · exact hw
      · exact hb
      · exact mod5 0 (by rw [if_neg (by omega)])
  by_cases k6 : k = 6
  · subst k6
    refine wifn (by decide) (wifn (by decide) (wifn (by decide) (wifn (by decide) (wifn (by decide) (wifp rfl ?_)))))
    refine rank_ok hfu hw hb (fun fi la best bf bm bl tb td ti tp ts fs fl fr mg le st hr hbi => ?_)
    have eb := BI_best hbi
    subst eb
    refine wif (fun g => ?_) (fun g => ?_)
    · apply h L t
      · exact hw
      · exact hb
      · intro K tr m0 m1 m2 m3 m4 m5 m6 m7 m8 m9 m10 m11 m12 m13 m14 hm hK
        unfold wp_X10_judged
        intro y1 ey1 y2 ey2
        rw [e100, nI_div (by omega) (by omega) (by omega)] at ey1
        rw [e100, irm_nI (by omega) (by omega) (by omega)] at ey2
        subst ey1 ey2
        refine wifn (by decide) ?_
        refine wifn (by decide) ?_
        refine wifn (by decide) ?_
        refine wifn (by decide) ?_
        refine wifn (by decide) ?_
        refine wifp rfl ?_
        refine best_ok hfu hm (fun de best2 bf2 bm2 bl2 q1 q2 q3 q5 q6 q7 q8 q9 q10 le2 st2 hd2 hbi2 => ?_)
        have eb2 := BI_best hbi2
        subst eb2
        exact wifp g (hK _ _ _ _ _ _ _ _ _ _ _ _ _ _ _ _ hm)
    · rw [show ix (0 : Int32) = 0 from rfl]
      refine wif (fun g1 => ?_) (fun g1 => ?_)
      · apply h L t
        · exact hw
        · exact hb
        · intro K tr m0 m1 m2 m3 m4 m5 m6 m7 m8 m9 m10 m11 m12 m13 m14 hm hK
          unfold wp_X10_judged
          intro y1 ey1 y2 ey2
          rw [e100, nI_div (by omega) (by omega) (by omega)] at ey1
          rw [e100, irm_nI (by omega) (by omega) (by omega)] at ey2
          subst ey1 ey2
          refine wifn (by decide) ?_
          refine wifn (by decide) ?_
          refine wifn (by decide) ?_
          refine wifn (by decide) ?_
          refine wifn (by decide) ?_
          refine wifp rfl ?_
          refine best_ok hfu hm (fun de best2 bf2 bm2 bl2 q1 q2 q3 q5 q6 q7 q8 q9 q10 le2 st2 hd2 hbi2 => ?_)
          have eb2 := BI_best hbi2
          subst eb2
          refine wifn g ?_
          rw [show ix (0 : Int32) = 0 from rfl]
          exact wifp (by rw [← BI_first hbi hbi2 g]; exact g1) (hK _ _ _ _ _ _ _ _ _ _ _ _ _ _ _ _ hm)
      · apply h L t
        · exact hw
        · exact hb
        · intro K tr m0 m1 m2 m3 m4 m5 m6 m7 m8 m9 m10 m11 m12 m13 m14 hm hK
          unfold wp_X10_judged
          intro y1 ey1 y2 ey2
          rw [e100, nI_div (by omega) (by omega) (by omega)] at ey1
          rw [e100, irm_nI (by omega) (by omega) (by omega)] at ey2
          subst ey1 ey2
          refine wifn (by decide) ?_
          refine wifn (by decide) ?_
          refine wifn (by decide) ?_
          refine wifn (by decide) ?_
          refine wifn (by decide) ?_
          refine wifp rfl ?_
          refine best_ok hfu hm (fun de best2 bf2 bm2 bl2 q1 q2 q3 q5 q6 q7 q8 q9 q10 le2 st2 hd2 hbi2 => ?_)
          have eb2 := BI_best hbi2
          subst eb2
          refine wifn g ?_
          rw [show ix (0 : Int32) = 0 from rfl]
          exact wifn (by rw [← BI_first hbi hbi2 g]; exact g1) (hK _ _ _ _ _ _ _ _ _ _ _ _ _ _ _ _ hm)
  have kn : ∀ j : Nat, 1 ≤ j → j ≤ 6 → ¬ nI k = nI j := fun j h1 h2 e => by
    have := nI_inj (by omega) (by omega) e
    omega
  refine wifn (kn 1 (by omega) (by omega)) (wifn (kn 2 (by omega) (by omega)) (wifn (kn 3 (by omega) (by omega)) (wifn (kn 4 (by omega) (by omega)) (wifn (kn 5 (by omega) (by omega)) (wifn (kn 6 (by omega) (by omega)) ?_)))))
  apply h L t
  · exact hw
  · exact hb
  · intro K tr m0 m1 m2 m3 m4 m5 m6 m7 m8 m9 m10 m11 m12 m13 m14 hm hK
    unfold wp_X10_judged
    intro y1 ey1 y2 ey2
    exact wifn (kn 1 (by omega) (by omega)) (wifn (kn 2 (by omega) (by omega)) (wifn (kn 3 (by omega) (by omega)) (wifn (kn 4 (by omega) (by omega)) (wifn (kn 5 (by omega) (by omega)) (wifn (kn 6 (by omega) (by omega)) (hK _ _ _ _ _ _ _ _ _ _ _ _ _ _ _ _ hm))))))
theorem judge_lp {fu n R : Nat} {wtk : Int32} {wlv now : Nat → Int32} {Qc : Int32 → Int32 → Int32 → Int32 → Int32 → (Nat → Int32) → Int32 → Int32 → Int32 → Int32 → Int32 → Int32 → Int32 → Int32 → Int32 → (Nat → Int32) → Int32 → Int32 → (Nat → Int32) → (Nat → Int32) → (Nat → Int32) → Int32 → (Nat → Int32) → Prop} (hfu : 1000 ≤ fu) (hn : n ≤ 3) (hR : R < 2 ^ 63) : ∀ (j fuel k t : Nat) (L tl : Nat → Int32) (c0 : Int32) (c1 : Int32) (c2 : Int32) (c3 : Int32) (c4 : (Nat → Int32)) (c5 : Int32) (c6 : Int32) (c7 : Int32) (c8 : Int32) (c9 : Int32) (c10 : Int32) (c11 : Int32) (c12 : Int32) (c13 : Int32) (c14 : (Nat → Int32)) (c15 : Int32) (c16 : Int32) (c17 : (Nat → Int32)) (c18 : (Nat → Int32)) (c19 : (Nat → Int32)), k + j = n → j < fuel → CW tl (nI t) L t → Bt L t →
    (∀ (r : Int32) (d0 : Int32) (d1 : Int32) (d2 : Int32) (d3 : Int32) (d4 : (Nat → Int32)) (d5 : Int32) (d6 : Int32) (d7 : Int32) (d8 : Int32) (d9 : Int32) (d10 : Int32) (d11 : Int32) (d12 : Int32) (d13 : Int32) (d14 : (Nat → Int32)) (d15 : Int32) (d16 : Int32) (d17 : (Nat → Int32)) (d18 : (Nat → Int32)) (d19 : (Nat → Int32)) (tt1 : Int32) (tl1 : Nat → Int32), (∀ (fuel1 : Nat) (K : Int32 → Int32 → Int32 → Int32 → Int32 → Int32 → Int32 → Int32 → Int32 → Int32 → Int32 → Int32 → (Nat → Int32) → (Nat → Int32) → (Nat → Int32) → (Nat → Int32) → (Nat → Int32) → Prop) (tr : Nat → Int32) (m0 : Int32) (m1 : Int32) (m2 : Int32) (m3 : Int32) (m4 : Int32) (m5 : Int32) (m6 : Int32) (m7 : Int32) (m8 : Int32) (m9 : Int32) (m10 : Int32) (m11 : (Nat → Int32)) (m12 : (Nat → Int32)) (m13 : (Nat → Int32)) (m14 : (Nat → Int32)), j < fuel1 → MW tr L t → (∀ (n0 : Int32) (n1 : Int32) (n2 : Int32) (n3 : Int32) (n4 : Int32) (n5 : Int32) (n6 : Int32) (n7 : Int32) (n8 : Int32) (n9 : Int32) (n10 : Int32) (n11 : (Nat → Int32)) (n12 : (Nat → Int32)) (n13 : (Nat → Int32)) (n14 : (Nat → Int32)) (tr1 : Nat → Int32), K r n0 n1 n2 n3 n4 n5 n6 n7 n8 n9 n10 n11 n12 n13 n14 tr1) → wX10_judge_43 fu now (nI n) (lN R) K fuel1 (nI k) m0 m1 m2 m3 m4 m5 m6 m7 m8 m9 m10 m11 m12 m13 m14 tr) → Qc r d0 d1 d2 d3 d4 d5 d6 d7 d8 d9 d10 d11 d12 d13 d14 d15 d16 d17 d18 d19 tt1 tl1) →
    wX9_judge_43 fu wtk wlv (nI n) (lN R) Qc fuel (nI k) c0 c1 c2 c3 c4 c5 c6 c7 c8 c9 c10 c11 c12 c13 c14 c15 c16 c17 c18 c19 (nI t) tl := by
  intro j
  induction j with
  | zero =>
    intro fuel k t L tl c0 c1 c2 c3 c4 c5 c6 c7 c8 c9 c10 c11 c12 c13 c14 c15 c16 c17 c18 c19 hk hf hw hb hq
    obtain ⟨f, rfl⟩ : ∃ f, fuel = f + 1 := ⟨fuel - 1, by omega⟩
    unfold wX9_judge_43
    refine wifp (by rw [nI_leI (by omega) (by omega)]; omega) ?_
    apply hq
    intro fuel1 K tr m0 m1 m2 m3 m4 m5 m6 m7 m8 m9 m10 m11 m12 m13 m14 hf1 hm hK
    obtain ⟨f1, rfl⟩ : ∃ f, fuel1 = f + 1 := ⟨fuel1 - 1, by omega⟩
    unfold wX10_judge_43
    exact wifp (by rw [nI_leI (by omega) (by omega)]; omega) (hK _ _ _ _ _ _ _ _ _ _ _ _ _ _ _ _)
  | succ j ih =>
    intro fuel k t L tl c0 c1 c2 c3 c4 c5 c6 c7 c8 c9 c10 c11 c12 c13 c14 c15 c16 c17 c18 c19 hk hf hw hb hq
    obtain ⟨f, rfl⟩ : ∃ f, fuel = f + 1 := ⟨fuel - 1, by omega⟩
    have e1 : (1 : Int32) = nI 1 := rfl
    have hpw : 10000 ^ (n - 1 - k) < 2 ^ 63 := by
      have h1 : 10000 ^ (n - 1 - k) ≤ 10000 ^ 3 := Nat.pow_le_pow_right (by omega) (by omega)
      omega
    have hpp : 0 < 10000 ^ (n - 1 - k) := Nat.pow_pos (by omega)
    have hle : R / 10000 ^ (n - 1 - k) ≤ R := Nat.div_le_self _ _
    have ey0 : Int64.toInt32 (lrm (lN (R / 10000 ^ (n - 1 - k))) (10000 : Int64)) = nI (R / 10000 ^ (n - 1 - k) % 10000) := by
      unfold lrm
      rw [show (10000 : Int64) = lN 10000 from rfl, pk_lRem (by omega) (by omega) (by omega), lN_i]
    unfold wX9_judge_43
    refine wifn (by rw [nI_leI (by omega) (by omega)]; omega) ?_
    rw [e1, nI_sub (by omega), nI_sub (by omega)]
    refine wld_ok (by omega) hR (by omega) ?_
    intro y ey
    rw [ey0] at ey
    subst ey
    rw [show (1000 : Int32) = nI 1000 from rfl, nI_div (by omega) (by omega) (by omega), irm_nI (by omega) (by omega) (by omega)]
    refine isSo_both hfu (by omega) (by omega) hw hb (fun L1 t1 r d0 d1 d2 d3 d4 d5 d6 d7 d8 d9 d10 d11 d12 d13 d14 d15 d16 d17 d18 d19 tl1 hw1 hb1 hmod => ?_)
    refine wif (fun hr => ?_) (fun hr => ?_)
    · apply hq
      intro fuel1 K tr m0 m1 m2 m3 m4 m5 m6 m7 m8 m9 m10 m11 m12 m13 m14 hf1 hm hK
      obtain ⟨f1, rfl⟩ : ∃ f, fuel1 = f + 1 := ⟨fuel1 - 1, by omega⟩
      unfold wX10_judge_43
      refine wifn (by rw [nI_leI (by omega) (by omega)]; omega) ?_
      rw [e1, nI_sub (by omega), nI_sub (by omega)]
      refine tth_ok (by omega) (by omega) ⟨?_, ?_⟩
      · rw [show (0 : Int64) = lN 0 from rfl, pk_lEQ hpw (by omega)]; omega
      · intro y ey
        rw [pk_lDiv hR hpp hpw, ey0] at ey
        subst ey
        rw [show (1000 : Int32) = nI 1000 from rfl, nI_div (by omega) (by omega) (by omega), irm_nI (by omega) (by omega) (by omega)]
        refine hmod _ tr _ _ _ _ _ _ _ _ _ _ _ _ _ _ _ hm (fun n0 n1 n2 n3 n4 n5 n6 n7 n8 n9 n10 n11 n12 n13 n14 tr1 hm1 => wifp hr ?_)
        exact hK _ _ _ _ _ _ _ _ _ _ _ _ _ _ _ _
    · rw [nI_add]
      refine ih f (k + 1) t1 L1 tl1 d0 d1 d2 d3 d4 d5 d6 d7 d8 d9 d10 d11 d12 d13 d14 d15 d16 d17 d18 d19 (by omega) (by omega) hw1 hb1 (fun r2 g0 g1 g2 g3 g4 g5 g6 g7 g8 g9 g10 g11 g12 g13 g14 g15 g16 g17 g18 g19 tt2 tl2 hM => ?_)
      apply hq
      intro fuel1 K tr m0 m1 m2 m3 m4 m5 m6 m7 m8 m9 m10 m11 m12 m13 m14 hf1 hm hK
      obtain ⟨f1, rfl⟩ : ∃ f, fuel1 = f + 1 := ⟨fuel1 - 1, by omega⟩
      unfold wX10_judge_43
      refine wifn (by rw [nI_leI (by omega) (by omega)]; omega) ?_
      rw [e1, nI_sub (by omega), nI_sub (by omega)]
      refine tth_ok (by omega) (by omega) ⟨?_, ?_⟩
      · rw [show (0 : Int64) = lN 0 from rfl, pk_lEQ hpw (by omega)]; omega
      · intro y ey
        rw [pk_lDiv hR hpp hpw, ey0] at ey
        subst ey
        rw [show (1000 : Int32) = nI 1000 from rfl, nI_div (by omega) (by omega) (by omega), irm_nI (by omega) (by omega) (by omega)]
        refine hmod _ tr _ _ _ _ _ _ _ _ _ _ _ _ _ _ _ hm (fun n0 n1 n2 n3 n4 n5 n6 n7 n8 n9 n10 n11 n12 n13 n14 tr1 hm1 => wifn hr ?_)
        rw [nI_add]
        exact hM f1 K tr1 _ _ _ _ _ _ _ _ _ _ _ _ _ _ _ (by omega) hm1 hK
theorem judge_both {fu : Nat} {v_wire_ticks : Int32} {v_wire_levels : (Nat → Int32)} {x1 : Int32} {x2 : Int64} {v_ranking_best : Int32} {v_ranking_bestFrames : Int32} {v_ranking_bestMargin : Int32} {v_ranking_fits : Int32} {v_ranking_bestLetters : (Nat → Int32)} {v_ranking_tried_bit : Int32} {v_ranking_tried_data : Int32} {v_ranking_tried_idle : Int32} {v_ranking_tried_parity : Int32} {v_ranking_tried_stops : Int32} {v_reader_failedStart : Int32} {v_reader_failure : Int32} {v_reader_frames : Int32} {v_reader_margin : Int32} {v_reader_letters : (Nat → Int32)} {v_reader_runs_runs : Int32} {v_reader_runs_ticks : Int32} {v_reader_runs_first : (Nat → Int32)} {v_reader_runs_last : (Nat → Int32)} {v_reader_starts : (Nat → Int32)} {v_trial_ticks : Int32} {v_trial_levels : (Nat → Int32)} {v_now : (Nat → Int32)} {v_bestFrames : Int32} {v_bits : Int32} {v_failed : Int32} {v_failedAt : Int32} {v_fitting : Int32} {v_frames : Int32} {v_idle : Int32} {v_margin : Int32} {v_parity : Int32} {v_stops : Int32} {v_wide : Int32} {v_bestLetters : (Nat → Int32)} {v_deep : (Nat → Int32)} {v_letters : (Nat → Int32)} {v_starts : (Nat → Int32)} {v_trial : (Nat → Int32)} {Qc : Int32 → Int32 → Int32 → Int32 → Int32 → (Nat → Int32) → Int32 → Int32 → Int32 → Int32 → Int32 → Int32 → Int32 → Int32 → Int32 → (Nat → Int32) → Int32 → Int32 → (Nat → Int32) → (Nat → Int32) → (Nat → Int32) → Int32 → (Nat → Int32) → Prop} (hfu : 1000 ≤ fu) (hW : WI v_wire_ticks v_wire_levels v_now)
    (h : ∀ (r : Int32) (z1 : Int32) (z2 : Int32) (z3 : Int32) (z4 : Int32) (z5 : (Nat → Int32)) (z6 : Int32) (z7 : Int32) (z8 : Int32) (z9 : Int32) (z10 : Int32) (z11 : Int32) (z12 : Int32) (z13 : Int32) (z14 : Int32) (z15 : (Nat → Int32)) (z16 : Int32) (z17 : Int32) (z18 : (Nat → Int32)) (z19 : (Nat → Int32)) (z20 : (Nat → Int32)) (z21 : Int32) (z22 : (Nat → Int32)), (∀ K : Int32 → Int32 → Int32 → Int32 → Int32 → Int32 → Int32 → Int32 → Int32 → Int32 → Int32 → Int32 → (Nat → Int32) → (Nat → Int32) → (Nat → Int32) → (Nat → Int32) → (Nat → Int32) → Prop, (∀ (w1 : Int32) (w2 : Int32) (w3 : Int32) (w4 : Int32) (w5 : Int32) (w6 : Int32) (w7 : Int32) (w8 : Int32) (w9 : Int32) (w10 : Int32) (w11 : Int32) (w12 : (Nat → Int32)) (w13 : (Nat → Int32)) (w14 : (Nat → Int32)) (w15 : (Nat → Int32)) (w16 : (Nat → Int32)), K r w1 w2 w3 w4 w5 w6 w7 w8 w9 w10 w11 w12 w13 w14 w15 w16) → wp_X10_judge fu v_now x1 x2 v_bestFrames v_bits v_failed v_failedAt v_fitting v_frames v_idle v_margin v_parity v_stops v_wide v_bestLetters v_deep v_letters v_starts v_trial K) → Qc r z1 z2 z3 z4 z5 z6 z7 z8 z9 z10 z11 z12 z13 z14 z15 z16 z17 z18 z19 z20 z21 z22) : wp_X9_judge fu v_wire_ticks v_wire_levels x1 x2 v_ranking_best v_ranking_bestFrames v_ranking_bestMargin v_ranking_fits v_ranking_bestLetters v_ranking_tried_bit v_ranking_tried_data v_ranking_tried_idle v_ranking_tried_parity v_ranking_tried_stops v_reader_failedStart v_reader_failure v_reader_frames v_reader_margin v_reader_letters v_reader_runs_runs v_reader_runs_ticks v_reader_runs_first v_reader_runs_last v_reader_starts v_trial_ticks v_trial_levels Qc := by
  obtain ⟨L, t, hw, hm, hb⟩ := hW
  obtain rfl := hw.1
  have ht := hw.2.1
  unfold wp_X9_judge
  have bad : ¬ (∃ n R, 1 ≤ n ∧ n ≤ 3 ∧ x1 = nI n ∧ R < 10000 ^ n ∧ x2 = lN R) → ∀ a0 a1 a2 a3 a4 a5 a6 a7 a8 a9 a10 a11 a12 a13 a14 a15 a16 a17 a18 a19 a20 a21, Qc (-2) a0 a1 a2 a3 a4 a5 a6 a7 a8 a9 a10 a11 a12 a13 a14 a15 a16 a17 a18 a19 a20 a21 := by
    intro hno a0 a1 a2 a3 a4 a5 a6 a7 a8 a9 a10 a11 a12 a13 a14 a15 a16 a17 a18 a19 a20 a21
    apply h
    intro K hK
    unfold wp_X10_judge
    refine inr_ok (lo := 1) (hi := 3) (by omega) rfl rfl (fun g => wifn (by decide) ?_) (fun g => wifp rfl ?_)
    · obtain ⟨n, n1, n3, e⟩ := g
      subst e
      have hpw : 10000 ^ n < 2 ^ 63 := by
        have h1 : 10000 ^ n ≤ 10000 ^ 3 := Nat.pow_le_pow_right (by omega) (by omega)
        omega
      have hpp : 0 < 10000 ^ n := Nat.pow_pos (by omega)
      refine tth_ok (by omega) (by omega) ?_
      refine inL_ok (fun c => ?_) (fun c => wifp rfl ?_)
      · rw [show (1 : Int64) = lN 1 from rfl, lN_sub (by omega), pk_lT (by omega), show (0 : Int64).toInt = 0 from rfl] at c
        obtain ⟨R, hR, e⟩ := pk_lOf (x := x2) (by rw [Int64.lt_iff_toInt_lt, show (0 : Int64).toInt = 0 from rfl]; omega)
        rw [e, pk_lT hR] at c
        exact absurd ⟨n, R, n1, n3, rfl, by omega, e⟩ hno
      · apply hK
    · apply hK
  by_cases g : RG 1 3 x1
  · obtain ⟨n, n1, n3, e⟩ := id g
    subst e
    have hpw : 10000 ^ n < 2 ^ 63 := by
      have h1 : 10000 ^ n ≤ 10000 ^ 3 := Nat.pow_le_pow_right (by omega) (by omega)
      omega
    have hpp : 0 < 10000 ^ n := Nat.pow_pos (by omega)
    refine wifn (by rw [show (1 : Int32) = nI 1 from rfl, nI_ltI (by omega) (by omega)]; omega) (wifn (by rw [show (3 : Int32) = nI 3 from rfl, nI_ltI (by omega) (by omega)]; omega) ?_)
    refine wif (fun c => ?_) (fun c => ?_) <;> rw [lg_cmp_lt] at c
    · apply bad
      rintro ⟨n', R, q1, q2, q3, q4, q5⟩
      have h1 : 10000 ^ n' ≤ 10000 ^ 3 := Nat.pow_le_pow_right (by omega) (by omega)
      rw [q5, Int64.lt_iff_toInt_lt, pk_lT (by omega), show (0 : Int64).toInt = 0 from rfl] at c
      omega
    · obtain ⟨R, hR, e⟩ := pk_lOf c
      subst e
      refine wld_ok (by omega) hR (by omega) ?_
      have hle : R / 10000 ^ n ≤ R := Nat.div_le_self _ _
      refine wif (fun c2 => ?_) (fun c2 => ?_) <;> rw [lg_cmp_eq, show (0 : Int64) = lN 0 from rfl, pk_lEQ (by omega) (by omega)] at c2
      · have hlt : R < 10000 ^ n := by
          rcases Nat.lt_or_ge R (10000 ^ n) with q | q
          · exact q
          · have := (Nat.le_div_iff_mul_le hpp).mpr (show 1 * 10000 ^ n ≤ R by omega)
            omega
        refine copy_ok hw (fun lev1 hw1 => ?_)
        refine judge_lp (now := v_now) hfu n3 hR n fu 0 t L lev1 _ _ _ _ _ _ _ _ _ _ _ _ _ _ _ _ _ _ _ _ (by omega) (by omega) hw1 hb (fun r d0 d1 d2 d3 d4 d5 d6 d7 d8 d9 d10 d11 d12 d13 d14 d15 d16 d17 d18 d19 tt1 tl1 hM => ?_)
        apply h
        intro K hK
        unfold wp_X10_judge
        refine inr_ok (lo := 1) (hi := 3) (by omega) rfl rfl (fun _ => wifn (by decide) ?_) (fun g2 => absurd g g2)
        refine tth_ok (by omega) (by omega) ?_
        refine inL_ok (fun c => wifn (by decide) ?_) (fun c => ?_)
        · refine copyM_ok (by omega) (fun tr htr => ?_)
          refine hM fu K tr _ _ _ _ _ _ _ _ _ _ _ _ _ _ _ (by omega) (MW_eq hm htr) ?_
          exact hK
        · rw [show (1 : Int64) = lN 1 from rfl, lN_sub (by omega), pk_lT hR, pk_lT (by omega), show (0 : Int64).toInt = 0 from rfl] at c
          omega
      · apply bad
        rintro ⟨n', R', q1, q2, q3, q4, q5⟩
        have h1 : 10000 ^ n' ≤ 10000 ^ 3 := Nat.pow_le_pow_right (by omega) (by omega)
        rw [pk_lEQ hR (by omega)] at q5
        have q6 := nI_inj (by omega) (by omega) q3
        subst q5 q6
        exact c2 (Nat.div_eq_of_lt q4)
  · have g' : ∀ a0 a1 a2 a3 a4 a5 a6 a7 a8 a9 a10 a11 a12 a13 a14 a15 a16 a17 a18 a19 a20 a21, Qc (-2) a0 a1 a2 a3 a4 a5 a6 a7 a8 a9 a10 a11 a12 a13 a14 a15 a16 a17 a18 a19 a20 a21 := by
      apply bad
      rintro ⟨n', R, q1, q2, q3, q4, q5⟩
      exact g ⟨n', q1, q2, q3⟩
    refine wif (fun _ => ?_) (fun c => wifp ?_ ?_)
    · apply g'
    · exact rg_lo (lo := 1) (hi := 3) (by omega) (by omega) g c
    · apply g'
