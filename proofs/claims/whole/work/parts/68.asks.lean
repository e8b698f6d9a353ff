/-! calls that only ask, on both sides -/
def WI (tk : Int32) (lev now : Nat → Int32) : Prop := ∃ L t, CW lev tk L t ∧ MW now L t ∧ Bt L t
theorem AI_WI {f sz : Int32} {am ki : Nat → Int32} {go : Nat → Int64} {ac nx : Int32} {di : Nat → Int32} {tk : Int32} {lev now : Nat → Int32} (h : AI f sz am ki go ac nx di tk lev now) : WI tk lev now := by
  obtain ⟨fN, a, x, S, T, -, -, -, -, hw, hm, hc⟩ := h
  exact ⟨S 0, T 0, hw, hm, hc.2.2.2.1 0 (by omega)⟩
theorem AI_eq {f sz : Int32} {am ki : Nat → Int32} {go : Nat → Int64} {ac nx : Int32} {di : Nat → Int32} {tk : Int32} {lev now : Nat → Int32} (h : AI f sz am ki go ac nx di tk lev now) : sz = ac := by
  obtain ⟨fN, a, x, S, T, -, e1, e2, -⟩ := h
  rw [e1, e2]
theorem TI_eq {ln lt : Int32} {le te : Nat → Int32} (h : TI ln le lt te) : ln = lt := by
  obtain ⟨n, c, e1, e2, -⟩ := h
  rw [e1, e2]
def KI (ks : Int32) (nu va : Nat → Int32) (km : Int32) (pl lt : Nat → Int32) : Prop := ∃ n ki kv, KN n ki kv ks nu va ∧ KN n ki kv km pl lt
theorem nI_inj {a b : Nat} (ha : a < 2 ^ 31) (hb : b < 2 ^ 31) (e : nI a = nI b) : a = b := by rwa [nI_eq ha hb] at e
theorem has_any {fu t : Nat} {x : Int32} {Q : Int32 → Prop} (ht : t ≤ 360) (h1 : ∀ j, j < t → x = nI j → Q 1) (h0 : (¬ ∃ j, j < t ∧ x = nI j) → Q 0) : wp_X8_has fu (nI t) x Q := by
  unfold wp_X8_has
  refine wif (fun c => h0 ?_) (fun c1 => wif (fun c2 => h0 ?_) (fun c2 => ?_))
  · rintro ⟨j, hj, rfl⟩
    exact nI_pos (by omega) c
  · rintro ⟨j, hj, rfl⟩
    rw [nI_leI (by omega) (by omega)] at c2
    omega
  · obtain ⟨j, hj, e⟩ := nI_of c1
    rw [e, nI_leI (by omega) hj] at c2
    exact h1 j (by omega) e
theorem isTick_any {fu t : Nat} {row L : Nat → Int32} {x : Int32} {Q : Int32 → Prop} (hw : MW row L t) (h1 : ∀ j, j < t → x = nI j → Q 1) (h0 : (¬ ∃ j, j < t ∧ x = nI j) → Q 0) : wp_X10_isTick fu row x Q := by
  have ht := hw.2.1
  refine isTick_ok hw h1 (fun g => h0 ?_)
  rintro ⟨j, hj, rfl⟩
  rcases g with g | g
  · exact nI_pos (by omega) g
  · rw [nI_leI (by omega) (by omega)] at g; omega
theorem level_both {fu : Nat} {v_wire_ticks : Int32} {v_wire_levels : (Nat → Int32)} {x1 : Int32} {v_now : (Nat → Int32)} {Qc : Int32 → Prop} (hfu : 1000 ≤ fu) (hW : WI v_wire_ticks v_wire_levels v_now)
    (h : ∀ (r : Int32) , (∀ K : Int32 → Prop, (K r ) → wp_X10_level fu v_now x1 K) → Qc r ) : wp_X9_level fu v_wire_ticks v_wire_levels x1 Qc := by
  obtain ⟨L, t, hw, hm, hb⟩ := hW
  obtain rfl := hw.1
  have ht := hw.2.1
  unfold wp_X9_level
  refine has_any ht (fun j hj e => wifn (by decide) ?_) (fun g => wifp rfl ?_)
  · subst e
    refine levelAt_ok hw hj ?_
    apply h
    intro K hK
    unfold wp_X10_level
    refine isTick_any hm (fun _ _ _ => wifn (by decide) ⟨vin (by omega) (by omega), ?_⟩) (fun g => absurd ⟨j, hj, rfl⟩ g)
    rw [ix_nI (by omega), hm.2.2 j hj]
    exact hK
  · apply h
    intro K hK
    unfold wp_X10_level
    exact isTick_any hm (fun j hj e => absurd ⟨j, hj, e⟩ g) (fun _ => wifp rfl hK)
theorem run_both {fu : Nat} {v_wire_ticks : Int32} {v_wire_levels : (Nat → Int32)} {x1 : Int32} {v_reader_runs_runs : Int32} {v_reader_runs_ticks : Int32} {v_reader_runs_first : (Nat → Int32)} {v_reader_runs_last : (Nat → Int32)} {v_now : (Nat → Int32)} {Qc : Int32 → Int32 → Int32 → (Nat → Int32) → (Nat → Int32) → Prop} (hfu : 1000 ≤ fu) (hW : WI v_wire_ticks v_wire_levels v_now)
    (h : ∀ (r : Int32) (z1 : Int32) (z2 : Int32) (z3 : (Nat → Int32)) (z4 : (Nat → Int32)), (∀ K : Int32 → Prop, (K r ) → wp_X10_run fu v_now x1 K) → Qc r z1 z2 z3 z4) : wp_X9_run fu v_wire_ticks v_wire_levels x1 v_reader_runs_runs v_reader_runs_ticks v_reader_runs_first v_reader_runs_last Qc := by
  obtain ⟨L, t, hw, hm, hb⟩ := hW
  obtain rfl := hw.1
  have ht := hw.2.1
  have hrc := rc_le L t
  unfold wp_X9_run
  refine listenTo_ok (by omega) hw (fun fi la hr => ?_)
  refine ticksOfRun_ok (by omega) ht hr (fun i hi e => ?_) (fun g => ?_)
  · subst e
    apply h
    intro K hK
    unfold wp_X10_run
    refine wifn (nI_pos (by omega)) (runOf_ok (by omega) (by omega) hm ?_)
    unfold wX10_run_13
    have e := ln_eq hi
    have e2 := lnc_le (L := L) (i := i) t
    refine wifn (by rw [show (0 : Int32) = nI 0 from rfl, nI_leI (by omega) (by omega)]; omega) hK
  · apply h
    intro K hK
    unfold wp_X10_run
    refine wif (fun _ => ?_) (fun c => ?_)
    · unfold wX10_run_13
      exact wifp (by decide) hK
    · obtain ⟨i, hi, e⟩ := nI_of c
      subst e
      rcases g with g | g
      · exact absurd g c
      · rw [nI_leI (by omega) hi] at g
        refine runOf_ok (by omega) (by omega) hm ?_
        rw [lnc_none g t (Nat.le_refl _)]
        unfold wX10_run_13
        exact wifp (by decide) hK
theorem off_both {fu : Nat} {v_wire_ticks : Int32} {v_wire_levels : (Nat → Int32)} {x1 : Int32} {v_reader_runs_runs : Int32} {v_reader_runs_ticks : Int32} {v_reader_runs_first : (Nat → Int32)} {v_reader_runs_last : (Nat → Int32)} {v_now : (Nat → Int32)} {Qc : Int32 → Int32 → Int32 → (Nat → Int32) → (Nat → Int32) → Prop} (hfu : 1000 ≤ fu) (hW : WI v_wire_ticks v_wire_levels v_now)
    (h : ∀ (r : Int32) (z1 : Int32) (z2 : Int32) (z3 : (Nat → Int32)) (z4 : (Nat → Int32)), (∀ K : Int32 → Prop, (K r ) → wp_X10_off fu v_now x1 K) → Qc r z1 z2 z3 z4) : wp_X9_off fu v_wire_ticks v_wire_levels x1 v_reader_runs_runs v_reader_runs_ticks v_reader_runs_first v_reader_runs_last Qc := by
  obtain ⟨L, t, hw, hm, hb⟩ := hW
  obtain rfl := hw.1
  have ht := hw.2.1
  unfold wp_X9_off
  by_cases g : RG 1 16 x1
  · obtain ⟨b, b1, b2, rfl⟩ := id g
    refine wifn (by simp (disch := omega) only [lit_nI, nI_ltI]; omega) (wifp (by simp (disch := omega) only [lit_nI, nI_leI]; omega) ?_)
    refine listenTo_ok (by omega) hw (fun fi la hr => ?_)
    refine offByC_ok (by omega) ht hr b1 b2 ?_
    apply h
    intro K hK
    unfold wp_X10_off
    refine inr_ok (lo := 1) (hi := 16) (by omega) rfl rfl (fun _ => wifn (by decide) ?_) (fun g2 => absurd g g2)
    exact offByM_ok (by omega) hm b1 b2 hK
  · have b : ∀ z1 z2 z3 z4, Qc (-2) z1 z2 z3 z4 := by
      intro z1 z2 z3 z4
      apply h
      intro K hK
      unfold wp_X10_off
      exact inr_ok (lo := 1) (hi := 16) (by omega) rfl rfl (fun g2 => absurd g2 g) (fun _ => wifp rfl hK)
    refine wif (fun _ => b _ _ _ _) (fun c => wifn (fun c2 => ?_) (b _ _ _ _))
    have c3 := rg_lo (by omega) (by omega) g c
    exact nlt_le.mpr c2 c3
theorem KN_push {n i v : Nat} {ki kv : Nat → Nat} {sz : Int32} {nu va : Nat → Int32} (h : KN n ki kv sz nu va) (hn : n < 5) (hi : i ≤ 9) (hv : v ≤ 255) : KN (n + 1) (fun q => if q = n then i else ki q) (fun q => if q = n then v else kv q) (nI (n + 1)) (upd nu n (nI i)) (upd va n (nI v)) := by
  refine ⟨rfl, by omega, fun q hq => ?_⟩
  rw [upd_ite, upd_ite]
  by_cases e : q = n
  · simp only [if_pos e]; exact ⟨trivial, trivial, hi, hv⟩
  · simp only [if_neg e]; exact h.2.2 q (by omega)
theorem isFullK_ok {fu n : Nat} {Q : Int32 → Prop} (hn : n ≤ 5) (h0 : n < 5 → Q 0) (h1 : n = 5 → Q 1) : wp_X2_isFull fu (nI n) Q := by
  unfold wp_X2_isFull
  refine wif (fun g => ?_) (fun g => ?_) <;> rw [show (5 : Int32) = nI 5 from rfl, nI_ltI (by omega) (by omega)] at g
  · exact h0 g
  · exact h1 (by omega)
theorem know_both {fu : Nat} {x1 : Int32} {x2 : Int32} {v_known_size : Int32} {v_known_numbers : (Nat → Int32)} {v_known_values : (Nat → Int32)} {v_known : Int32} {v_knownLetter : (Nat → Int32)} {v_knownPlace : (Nat → Int32)} {Qc : Int32 → Int32 → (Nat → Int32) → (Nat → Int32) → Prop} (hfu : 1000 ≤ fu) (hK0 : KI v_known_size v_known_numbers v_known_values v_known v_knownPlace v_knownLetter)
    (h : ∀ (r : Int32) (z1 : Int32) (z2 : (Nat → Int32)) (z3 : (Nat → Int32)), (∀ K : Int32 → Int32 → (Nat → Int32) → (Nat → Int32) → Prop, (∀ (w1 : Int32) (w2 : (Nat → Int32)) (w3 : (Nat → Int32)), KI z1 z2 z3 w1 w3 w2 → K r w1 w2 w3) → wp_X10_know fu x1 x2 v_known v_knownLetter v_knownPlace K) → Qc r z1 z2 z3) : wp_X9_know fu x1 x2 v_known_size v_known_numbers v_known_values Qc := by
  obtain ⟨n, ki, kv, k1, k2⟩ := id hK0
  obtain rfl := k1.1
  obtain rfl := k2.1
  have hn := k1.2.1
  unfold wp_X9_know
  by_cases g1 : RG 0 9 x1
  · obtain ⟨i, -, i2, rfl⟩ := id g1
    refine wifn (nI_pos (by omega)) (wifn (by simp (disch := omega) only [lit_nI, nI_ltI]; omega) ?_)
    refine isLetter_ok (fun g2 => wifn (by decide) ?_) (fun g2 => wifp rfl ?_)
    · obtain ⟨v, -, v2, rfl⟩ := id g2
      refine isFullK_ok hn (fun g3 => wifp rfl ?_) (fun g3 => wifn (by decide) ?_)
      · unfold wp_X2_add
        refine isFullK_ok hn (fun _ => wifp rfl ⟨vin (by omega) (by omega), vin (by omega) (by omega), ?_⟩) (fun g => by omega)
        apply h
        intro K hK
        unfold wp_X10_know
        refine inr_ok (lo := 0) (hi := 9) (by omega) rfl rfl (fun _ => wifn (by decide) ?_) (fun g => absurd g1 g)
        refine inr_ok (lo := 0) (hi := 255) (by omega) rfl rfl (fun _ => wifn (by decide) ?_) (fun g => absurd g2 g)
        refine wifn (by rw [show (5 : Int32) = nI 5 from rfl, nI_eq (by omega) (by omega)]; omega) ⟨vin (by omega) (by omega), vin (by omega) (by omega), ?_⟩
        apply hK
        rw [ix_nI (by omega), show (1 : Int32) = nI 1 from rfl, nI_add]
        exact ⟨n + 1, _, _, KN_push k1 g3 i2 v2, KN_push k2 g3 i2 v2⟩
      · apply h
        intro K hK
        unfold wp_X10_know
        refine inr_ok (lo := 0) (hi := 9) (by omega) rfl rfl (fun _ => wifn (by decide) ?_) (fun g => absurd g1 g)
        refine inr_ok (lo := 0) (hi := 255) (by omega) rfl rfl (fun _ => wifn (by decide) ?_) (fun g => absurd g2 g)
        refine wifp (by rw [show (5 : Int32) = nI 5 from rfl, nI_eq (by omega) (by omega)]; omega) ?_
        exact hK _ _ _ hK0
    · apply h
      intro K hK
      unfold wp_X10_know
      refine inr_ok (lo := 0) (hi := 9) (by omega) rfl rfl (fun _ => wifn (by decide) ?_) (fun g => absurd g1 g)
      exact inr_ok (lo := 0) (hi := 255) (by omega) rfl rfl (fun g => absurd g g2) (fun _ => wifp rfl (hK _ _ _ hK0))
  · have b : Qc (-2) (nI n) v_known_numbers v_known_values := by
      apply h
      intro K hK
      unfold wp_X10_know
      exact inr_ok (lo := 0) (hi := 9) (by omega) rfl rfl (fun g => absurd g g1) (fun _ => wifp rfl (hK _ _ _ hK0))
    refine wif (fun _ => b) (fun c => wifp ?_ b)
    exact rg_lo (lo := 0) (hi := 9) (by omega) (by omega) g1 c
theorem forget_both {fu : Nat} {nu va pl lt : Nat → Int32} {v_known_size : Int32} {v_known : Int32} {Qc : Int32 → Int32 → Prop} (hfu : 1000 ≤ fu) (hK0 : KI v_known_size nu va v_known pl lt)
    (h : ∀ (r : Int32) (z1 : Int32), (∀ K : Int32 → Int32 → Prop, (∀ (w1 : Int32), KI z1 nu va w1 pl lt → K r w1) → wp_X10_forget fu v_known K) → Qc r z1) : wp_X9_forget fu v_known_size Qc := by
  obtain ⟨n, ki, kv, k1, k2⟩ := id hK0
  obtain rfl := k1.1
  obtain rfl := k2.1
  have hn := k1.2.1
  unfold wp_X9_forget
  apply h
  intro K hK
  unfold wp_X10_forget
  exact hK _ ⟨0, ki, kv, ⟨rfl, by omega, fun q hq => by omega⟩, ⟨rfl, by omega, fun q hq => by omega⟩⟩
theorem share_both {fu : Nat} {v_known_size : Int32} {v_known_numbers : (Nat → Int32)} {v_known_values : (Nat → Int32)} {v_wire_ticks : Int32} {v_wire_levels : (Nat → Int32)} {x1 : Int32} {x2 : Int32} {v_ranking_tried_bit : Int32} {v_ranking_tried_data : Int32} {v_ranking_tried_idle : Int32} {v_ranking_tried_parity : Int32} {v_ranking_tried_stops : Int32} {v_reader_failedStart : Int32} {v_reader_failure : Int32} {v_reader_frames : Int32} {v_reader_margin : Int32} {v_reader_letters : (Nat → Int32)} {v_reader_runs_runs : Int32} {v_reader_runs_ticks : Int32} {v_reader_runs_first : (Nat → Int32)} {v_reader_runs_last : (Nat → Int32)} {v_reader_starts : (Nat → Int32)} {v_known : Int32} {v_deep : (Nat → Int32)} {v_knownLetter : (Nat → Int32)} {v_knownPlace : (Nat → Int32)} {v_now : (Nat → Int32)} {v_bits : Int32} {v_failed : Int32} {v_failedAt : Int32} {v_frames : Int32} {v_idle : Int32} {v_margin : Int32} {v_parity : Int32} {v_stops : Int32} {v_wide : Int32} {v_letters : (Nat → Int32)} {v_starts : (Nat → Int32)} {v_worth : (Nat → Int32)} {Qc : Int32 → Int32 → Int32 → Int32 → Int32 → Int32 → Int32 → Int32 → Int32 → Int32 → (Nat → Int32) → Int32 → Int32 → (Nat → Int32) → (Nat → Int32) → (Nat → Int32) → Prop} (hfu : 1000 ≤ fu) (hW : WI v_wire_ticks v_wire_levels v_now) (hK0 : KI v_known_size v_known_numbers v_known_values v_known v_knownPlace v_knownLetter)
    (h : ∀ (r : Int32) (z1 : Int32) (z2 : Int32) (z3 : Int32) (z4 : Int32) (z5 : Int32) (z6 : Int32) (z7 : Int32) (z8 : Int32) (z9 : Int32) (z10 : (Nat → Int32)) (z11 : Int32) (z12 : Int32) (z13 : (Nat → Int32)) (z14 : (Nat → Int32)) (z15 : (Nat → Int32)), (∀ K : Int32 → Int32 → Int32 → Int32 → Int32 → Int32 → Int32 → Int32 → Int32 → Int32 → (Nat → Int32) → (Nat → Int32) → (Nat → Int32) → Prop, (∀ (w1 : Int32) (w2 : Int32) (w3 : Int32) (w4 : Int32) (w5 : Int32) (w6 : Int32) (w7 : Int32) (w8 : Int32) (w9 : Int32) (w10 : (Nat → Int32)) (w11 : (Nat → Int32)) (w12 : (Nat → Int32)), K r w1 w2 w3 w4 w5 w6 w7 w8 w9 w10 w11 w12) → wp_X10_share fu v_known v_deep v_knownLetter v_knownPlace v_now x1 x2 v_bits v_failed v_failedAt v_frames v_idle v_margin v_parity v_stops v_wide v_letters v_starts v_worth K) → Qc r z1 z2 z3 z4 z5 z6 z7 z8 z9 z10 z11 z12 z13 z14 z15) : wp_X9_share fu v_known_size v_known_numbers v_known_values v_wire_ticks v_wire_levels x1 x2 v_ranking_tried_bit v_ranking_tried_data v_ranking_tried_idle v_ranking_tried_parity v_ranking_tried_stops v_reader_failedStart v_reader_failure v_reader_frames v_reader_margin v_reader_letters v_reader_runs_runs v_reader_runs_ticks v_reader_runs_first v_reader_runs_last v_reader_starts Qc := by
  obtain ⟨L, t, hw, hm, hb⟩ := hW
  obtain rfl := hw.1
  have ht := hw.2.1
  obtain ⟨n, ki, kv, k1, k2⟩ := id hK0
  obtain rfl := k1.1
  obtain rfl := k2.1
  have hn := k1.2.1
  unfold wp_X9_share
  by_cases g : ∃ p, p < n ∧ x1 = nI p
  · obtain ⟨p, hp, rfl⟩ := id g
    refine wifn (nI_pos (by omega)) (wifp (by rw [nI_ltI (by omega) (by omega)]; omega) ?_)
    refine sixtieths_ok hfu hw hb k1 hp (fun b1 b2 b3 b4 b5 b6 b7 b8 b9 le rr tt fi la st => ?_)
    have h32 : 2 ^ n ≤ 2 ^ 5 := Nat.pow_le_pow_right (by omega) (by omega)
    have hs := sxt_le (L := L) (t := t) (ki := ki) (kv := kv) (show n < 6 by omega) hp 768
    refine inLeastTerms_ok (B := 60) (by omega) (by omega) (by omega) (by omega) ?_
    rw [shares_same (by omega) hp]
    apply h
    intro K hK
    unfold wp_X10_share
    refine in_ok (fun _ => wifn (by decide) ?_) (fun c => ?_)
    · exact shm1_lp hfu hm k2 hp (fun b1 b2 b3 b4 b5 b6 b7 b8 b9 le st wo => hK _ _ _ _ _ _ _ _ _ _ _ _) (2 ^ n) fu 0 _ _ _ _ _ _ _ _ _ _ _ _ (by omega) (by omega) (fun S hS => by omega)
    · rw [nI_toInt (by omega), Int32.toInt_toInt64, show (1 : Int32) = nI 1 from rfl, pk_sub_toInt (by omega) (by omega), show (0 : Int64).toInt = 0 from rfl] at c
      omega
  · have b : ∀ z1 z2 z3 z4 z5 z6 z7 z8 z9 z10 z11 z12 z13 z14 z15, Qc (-1) z1 z2 z3 z4 z5 z6 z7 z8 z9 z10 z11 z12 z13 z14 z15 := by
      intro z1 z2 z3 z4 z5 z6 z7 z8 z9 z10 z11 z12 z13 z14 z15
      apply h
      intro K hK
      unfold wp_X10_share
      refine in_ok (fun c => ?_) (fun _ => wifp rfl (hK _ _ _ _ _ _ _ _ _ _ _ _))
      rw [Int32.toInt_toInt64, show (1 : Int32) = nI 1 from rfl, pk_sub_toInt (by omega) (by omega), show (0 : Int64).toInt = 0 from rfl] at c
      obtain ⟨j, hj, e⟩ := nI_of (x := x1) (by rw [toInt_lt0]; omega)
      rw [e, nI_toInt hj] at c
      exact absurd ⟨j, by omega, e⟩ g
    refine wif (fun _ => b _ _ _ _ _ _ _ _ _ _ _ _ _ _ _) (fun c => wifn (fun c2 => ?_) (b _ _ _ _ _ _ _ _ _ _ _ _ _ _ _))
    obtain ⟨j, hj, e⟩ := nI_of c
    rw [e, nI_ltI hj (by omega)] at c2
    exact g ⟨j, c2, e⟩
theorem BI_best {L : Nat → Int32} {t : Nat} {o : Option Nat} {best bf bm : Int32} {bl : Nat → Int32} (h : BI L t o best bf bm bl) : best = oc o := by
  cases o with
  | none => exact h.1
  | some j => exact h.2.2.1
theorem about_both {fu : Nat} {v_acts_size : Int32} {v_known_size : Int32} {v_known_numbers : (Nat → Int32)} {v_known_values : (Nat → Int32)} {v_text_length : Int32} {v_wire_ticks : Int32} {v_wire_levels : (Nat → Int32)} {x1 : Int32} {v_ranking_best : Int32} {v_ranking_bestFrames : Int32} {v_ranking_bestMargin : Int32} {v_ranking_fits : Int32} {v_ranking_leastLeft : Int32} {v_ranking_left : Int32} {v_ranking_bestLetters : (Nat → Int32)} {v_ranking_tried_bit : Int32} {v_ranking_tried_data : Int32} {v_ranking_tried_idle : Int32} {v_ranking_tried_parity : Int32} {v_ranking_tried_stops : Int32} {v_reader_failedStart : Int32} {v_reader_failure : Int32} {v_reader_frames : Int32} {v_reader_margin : Int32} {v_reader_letters : (Nat → Int32)} {v_reader_runs_runs : Int32} {v_reader_runs_ticks : Int32} {v_reader_runs_first : (Nat → Int32)} {v_reader_runs_last : (Nat → Int32)} {v_reader_starts : (Nat → Int32)} {v_acts : Int32} {v_known : Int32} {v_length : Int32} {v_knownLetter : (Nat → Int32)} {v_knownPlace : (Nat → Int32)} {v_now : (Nat → Int32)} {v_alike : Int32} {v_bestFrames : Int32} {v_bits : Int32} {v_failed : Int32} {v_failedAt : Int32} {v_fitting : Int32} {v_frames : Int32} {v_idle : Int32} {v_margin : Int32} {v_parity : Int32} {v_stops : Int32} {v_wide : Int32} {v_bestLetters : (Nat → Int32)} {v_deep : (Nat → Int32)} {v_letters : (Nat → Int32)} {v_starts : (Nat → Int32)} {Qc : Int32 → Int32 → Int32 → Int32 → Int32 → Int32 → Int32 → (Nat → Int32) → Int32 → Int32 → Int32 → Int32 → Int32 → Int32 → Int32 → Int32 → Int32 → (Nat → Int32) → Int32 → Int32 → (Nat → Int32) → (Nat → Int32) → (Nat → Int32) → Prop} (hfu : 1000 ≤ fu) (hW : WI v_wire_ticks v_wire_levels v_now) (hK0 : KI v_known_size v_known_numbers v_known_values v_known v_knownPlace v_knownLetter) (ha : v_acts_size = v_acts) (hl : v_text_length = v_length)
    (h : ∀ (r : Int32) (z1 : Int32) (z2 : Int32) (z3 : Int32) (z4 : Int32) (z5 : Int32) (z6 : Int32) (z7 : (Nat → Int32)) (z8 : Int32) (z9 : Int32) (z10 : Int32) (z11 : Int32) (z12 : Int32) (z13 : Int32) (z14 : Int32) (z15 : Int32) (z16 : Int32) (z17 : (Nat → Int32)) (z18 : Int32) (z19 : Int32) (z20 : (Nat → Int32)) (z21 : (Nat → Int32)) (z22 : (Nat → Int32)), (∀ K : Int32 → Int32 → Int32 → Int32 → Int32 → Int32 → Int32 → Int32 → Int32 → Int32 → Int32 → Int32 → Int32 → (Nat → Int32) → (Nat → Int32) → (Nat → Int32) → (Nat → Int32) → Prop, (∀ (w1 : Int32) (w2 : Int32) (w3 : Int32) (w4 : Int32) (w5 : Int32) (w6 : Int32) (w7 : Int32) (w8 : Int32) (w9 : Int32) (w10 : Int32) (w11 : Int32) (w12 : Int32) (w13 : (Nat → Int32)) (w14 : (Nat → Int32)) (w15 : (Nat → Int32)) (w16 : (Nat → Int32)), K r w1 w2 w3 w4 w5 w6 w7 w8 w9 w10 w11 w12 w13 w14 w15 w16) → wp_X10_about fu v_acts v_known v_length v_knownLetter v_knownPlace v_now x1 v_alike v_bestFrames v_bits v_failed v_failedAt v_fitting v_frames v_idle v_margin v_parity v_stops v_wide v_bestLetters v_deep v_letters v_starts K) → Qc r z1 z2 z3 z4 z5 z6 z7 z8 z9 z10 z11 z12 z13 z14 z15 z16 z17 z18 z19 z20 z21 z22) : wp_X9_about fu v_acts_size v_known_size v_known_numbers v_known_values v_text_length v_wire_ticks v_wire_levels x1 v_ranking_best v_ranking_bestFrames v_ranking_bestMargin v_ranking_fits v_ranking_leastLeft v_ranking_left v_ranking_bestLetters v_ranking_tried_bit v_ranking_tried_data v_ranking_tried_idle v_ranking_tried_parity v_ranking_tried_stops v_reader_failedStart v_reader_failure v_reader_frames v_reader_margin v_reader_letters v_reader_runs_runs v_reader_runs_ticks v_reader_runs_first v_reader_runs_last v_reader_starts Qc := by
  obtain ⟨L, t, hw, hm, hb⟩ := hW
  obtain rfl := hw.1
  have ht := hw.2.1
  obtain ⟨n, ki, kv, k1, k2⟩ := id hK0
  obtain rfl := k1.1
  obtain rfl := k2.1
  have hn := k1.2.1
  subst ha hl
  unfold wp_X9_about
  by_cases c0 : x1 = (0 : Int32)
  · subst c0
    refine wifp rfl ?_
    apply h
    intro K hK
    unfold wp_X10_about
    refine wifp rfl ?_
    rw [show ix (360 : Int32) = 360 from rfl, hm.1]
    apply hK
  by_cases c1 : x1 = (1 : Int32)
  · subst c1
    refine wifn (by decide) ?_
    refine wifp rfl ?_
    refine listenTo_ok (by omega) hw (fun fi la hr => ?_)
    refine edgesC_ok (by have := rc_le L t; omega) ?_
    apply h
    intro K hK
    unfold wp_X10_about
    refine wifn (by decide) ?_
    refine wifp rfl ?_
    refine edgesM_ok (by omega) hm ?_
    apply hK
  by_cases c2 : x1 = (2 : Int32)
  · subst c2
    refine wifn (by decide) ?_
    refine wifn (by decide) ?_
    refine wifp rfl ?_
    refine rank_ok hfu hw hb (fun fi la best bf bm bl tb td ti tp ts fs fl fr mg le st hr hbi => ?_)
    apply h
    intro K hK
    unfold wp_X10_about
    refine wifn (by decide) ?_
    refine wifn (by decide) ?_
    refine wifp rfl ?_
    unfold wp_X10_fit
    refine best_ok hfu hm (fun _ _ _ _ _ _ _ _ _ _ _ _ _ _ _ _ _ _ => ?_)
    apply hK
  by_cases c3 : x1 = (3 : Int32)
  · subst c3
    refine wifn (by decide) ?_
    refine wifn (by decide) ?_
    refine wifn (by decide) ?_
    refine wifp rfl ?_
    refine rank_ok hfu hw hb (fun fi la best bf bm bl tb td ti tp ts fs fl fr mg le st hr hbi => ?_)
    apply h
    intro K hK
    unfold wp_X10_about
    refine wifn (by decide) ?_
    refine wifn (by decide) ?_
    refine wifn (by decide) ?_
    refine wifp rfl ?_
    refine best_ok hfu hm (fun de best2 bf2 bm2 bl2 _ _ _ _ _ _ _ _ _ _ _ _ hbi2 => ?_)
    rw [show best2 = best from by rw [BI_best hbi2, BI_best hbi]]
    apply hK
  by_cases c4 : x1 = (4 : Int32)
  · subst c4
    refine wifn (by decide) ?_
    refine wifn (by decide) ?_
    refine wifn (by decide) ?_
    refine wifn (by decide) ?_
    refine wifp rfl ?_
    refine rank_ok hfu hw hb (fun fi la best bf bm bl tb td ti tp ts fs fl fr mg le st hr hbi => ?_)
    obtain ⟨e1, e2, e3⟩ := BI_vs ht hbi
    rw [e1]
    unfold wp_X3_countAlike
    refine countAlike_lp hfu hw hb hr e2 e3 (fun _ _ _ _ _ _ _ _ _ _ _ => ?_) 768 fu 0 _ _ _ _ _ _ _ _ _ _ _ (by omega) (by omega)
    apply h
    intro K hK
    unfold wp_X10_about
    refine wifn (by decide) ?_
    refine wifn (by decide) ?_
    refine wifn (by decide) ?_
    refine wifn (by decide) ?_
    refine wifp rfl ?_
    refine alikes_ok hfu hm (fun _ _ _ _ _ _ _ _ _ _ _ _ _ _ _ _ => ?_)
    apply hK
  by_cases c5 : x1 = (5 : Int32)
  · subst c5
    refine wifn (by decide) ?_
    refine wifn (by decide) ?_
    refine wifn (by decide) ?_
    refine wifn (by decide) ?_
    refine wifn (by decide) ?_
    refine wifp rfl ?_
    refine listenTo_ok (by omega) hw (fun fi la hr => ?_)
    refine widthC_ok (by omega) ht hr ?_
    apply h
    intro K hK
    unfold wp_X10_about
    refine wifn (by decide) ?_
    refine wifn (by decide) ?_
    refine wifn (by decide) ?_
    refine wifn (by decide) ?_
    refine wifn (by decide) ?_
    refine wifp rfl ?_
    refine widthM_ok (by omega) hm ?_
    apply hK
  by_cases c6 : x1 = (6 : Int32)
  · subst c6
    refine wifn (by decide) ?_
    refine wifn (by decide) ?_
    refine wifn (by decide) ?_
    refine wifn (by decide) ?_
    refine wifn (by decide) ?_
    refine wifn (by decide) ?_
    refine wifp rfl ?_
    refine sift_ok hfu hw hb k1 (fun _ _ _ _ _ _ _ _ _ _ _ _ _ => ?_)
    rw [← pCM hn]
    apply h
    intro K hK
    unfold wp_X10_about
    refine wifn (by decide) ?_
    refine wifn (by decide) ?_
    refine wifn (by decide) ?_
    refine wifn (by decide) ?_
    refine wifn (by decide) ?_
    refine wifn (by decide) ?_
    refine wifp rfl ?_
    refine left_ok (m := 31) hfu hm (by omega) k2 (fun _ _ _ _ _ _ _ _ _ _ _ _ => ?_) (fun g => absurd rfl g)
    apply hK
  by_cases c7 : x1 = (7 : Int32)
  · subst c7
    refine wifn (by decide) ?_
    refine wifn (by decide) ?_
    refine wifn (by decide) ?_
    refine wifn (by decide) ?_
    refine wifn (by decide) ?_
    refine wifn (by decide) ?_
    refine wifn (by decide) ?_
    refine wifp rfl ?_
    refine sift_ok hfu hw hb k1 (fun _ _ _ _ _ _ _ _ _ _ _ _ _ => ?_)
    rw [← pCM hn]
    apply h
    intro K hK
    unfold wp_X10_about
    refine wifn (by decide) ?_
    refine wifn (by decide) ?_
    refine wifn (by decide) ?_
    refine wifn (by decide) ?_
    refine wifn (by decide) ?_
    refine wifn (by decide) ?_
    refine wifn (by decide) ?_
    refine wifp rfl ?_
    refine left_ok (m := 31) hfu hm (by omega) k2 (fun g => absurd g (by decide)) (fun _ _ _ _ _ _ _ _ _ _ _ _ => ?_)
    apply hK
  by_cases c8 : x1 = (8 : Int32)
  · subst c8
    refine wifn (by decide) ?_
    refine wifn (by decide) ?_
    refine wifn (by decide) ?_
    refine wifn (by decide) ?_
    refine wifn (by decide) ?_
    refine wifn (by decide) ?_
    refine wifn (by decide) ?_
    refine wifn (by decide) ?_
    refine wifp rfl ?_
    apply h
    intro K hK
    unfold wp_X10_about
    refine wifn (by decide) ?_
    refine wifn (by decide) ?_
    refine wifn (by decide) ?_
    refine wifn (by decide) ?_
    refine wifn (by decide) ?_
    refine wifn (by decide) ?_
    refine wifn (by decide) ?_
    refine wifn (by decide) ?_
    refine wifp rfl ?_
    apply hK
  by_cases c9 : x1 = (9 : Int32)
  · subst c9
    refine wifn (by decide) ?_
    refine wifn (by decide) ?_
    refine wifn (by decide) ?_
    refine wifn (by decide) ?_
    refine wifn (by decide) ?_
    refine wifn (by decide) ?_
    refine wifn (by decide) ?_
    refine wifn (by decide) ?_
    refine wifn (by decide) ?_
    refine wifp rfl ?_
    apply h
    intro K hK
    unfold wp_X10_about
    refine wifn (by decide) ?_
    refine wifn (by decide) ?_
    refine wifn (by decide) ?_
    refine wifn (by decide) ?_
    refine wifn (by decide) ?_
    refine wifn (by decide) ?_
    refine wifn (by decide) ?_
    refine wifn (by decide) ?_
    refine wifn (by decide) ?_
    refine wifp rfl ?_
    apply hK
  by_cases c10 : x1 = (10 : Int32)
  · subst c10
    refine wifn (by decide) ?_
    refine wifn (by decide) ?_
    refine wifn (by decide) ?_
    refine wifn (by decide) ?_
    refine wifn (by decide) ?_
    refine wifn (by decide) ?_
    refine wifn (by decide) ?_
    refine wifn (by decide) ?_
    refine wifn (by decide) ?_
    refine wifn (by decide) ?_
    refine wifp rfl ?_
    apply h
    intro K hK
    unfold wp_X10_about
    refine wifn (by decide) ?_
    refine wifn (by decide) ?_
    refine wifn (by decide) ?_
    refine wifn (by decide) ?_
    refine wifn (by decide) ?_
    refine wifn (by decide) ?_
    refine wifn (by decide) ?_
    refine wifn (by decide) ?_
    refine wifn (by decide) ?_
    refine wifn (by decide) ?_
    refine wifp rfl ?_
    apply hK
  refine wifn c0 ?_
  refine wifn c1 ?_
  refine wifn c2 ?_
  refine wifn c3 ?_
  refine wifn c4 ?_
  refine wifn c5 ?_
  refine wifn c6 ?_
  refine wifn c7 ?_
  refine wifn c8 ?_
  refine wifn c9 ?_
  refine wifn c10 ?_
  apply h
  intro K hK
  unfold wp_X10_about
  refine wifn c0 ?_
  refine wifn c1 ?_
  refine wifn c2 ?_
  refine wifn c3 ?_
  refine wifn c4 ?_
  refine wifn c5 ?_
  refine wifn c6 ?_
  refine wifn c7 ?_
  refine wifn c8 ?_
  refine wifn c9 ?_
  refine wifn c10 ?_
  apply hK
def ansG (R : List Nat × Nat × Nat) (mg j : Nat) : Int32 := if j = 0 then nI R.1.length else if j = 1 then (if R.2.1 = 0 ∧ R.1.length ≠ 0 then 1 else 0) else if j = 2 then nI R.2.1 else if j = 3 then (if R.2.1 = 0 then -9 else nI R.2.2) else (if R.2.1 = 0 ∧ R.1.length ≠ 0 then nI mg else -9)
theorem RD_len2 {L : Nat → Int32} {t b d p s : Nat} {idle : Int32} (hg : GOK b d p s idle) (ht : t ≤ 360) : (RD L t b d p s idle 1).1.length ≤ 60 := by
  have := RD_len (L := L) (t := t) hg t 1 (by omega)
  omega
theorem guess_both {fu : Nat} {v_wire_ticks : Int32} {v_wire_levels : (Nat → Int32)} {x1 : Int32} {x2 : Int32} {v_asked_bit : Int32} {v_asked_data : Int32} {v_asked_idle : Int32} {v_asked_parity : Int32} {v_asked_stops : Int32} {v_reader_failedStart : Int32} {v_reader_failure : Int32} {v_reader_frames : Int32} {v_reader_margin : Int32} {v_reader_letters : (Nat → Int32)} {v_reader_runs_runs : Int32} {v_reader_runs_ticks : Int32} {v_reader_runs_first : (Nat → Int32)} {v_reader_runs_last : (Nat → Int32)} {v_reader_starts : (Nat → Int32)} {v_now : (Nat → Int32)} {v_bits : Int32} {v_failed : Int32} {v_failedAt : Int32} {v_frames : Int32} {v_idle : Int32} {v_margin : Int32} {v_parity : Int32} {v_stops : Int32} {v_wide : Int32} {v_deep : (Nat → Int32)} {v_letters : (Nat → Int32)} {v_starts : (Nat → Int32)} {Qc : Int32 → Int32 → Int32 → Int32 → Int32 → Int32 → Int32 → Int32 → Int32 → Int32 → (Nat → Int32) → Int32 → Int32 → (Nat → Int32) → (Nat → Int32) → (Nat → Int32) → Prop} (hfu : 1000 ≤ fu) (hW : WI v_wire_ticks v_wire_levels v_now)
    (h : ∀ (r : Int32) (z1 : Int32) (z2 : Int32) (z3 : Int32) (z4 : Int32) (z5 : Int32) (z6 : Int32) (z7 : Int32) (z8 : Int32) (z9 : Int32) (z10 : (Nat → Int32)) (z11 : Int32) (z12 : Int32) (z13 : (Nat → Int32)) (z14 : (Nat → Int32)) (z15 : (Nat → Int32)), (∀ K : Int32 → Int32 → Int32 → Int32 → Int32 → Int32 → Int32 → Int32 → Int32 → Int32 → (Nat → Int32) → (Nat → Int32) → (Nat → Int32) → Prop, (∀ (w1 : Int32) (w2 : Int32) (w3 : Int32) (w4 : Int32) (w5 : Int32) (w6 : Int32) (w7 : Int32) (w8 : Int32) (w9 : Int32) (w10 : (Nat → Int32)) (w11 : (Nat → Int32)) (w12 : (Nat → Int32)), K r w1 w2 w3 w4 w5 w6 w7 w8 w9 w10 w11 w12) → wp_X10_guess fu v_now x1 x2 v_bits v_failed v_failedAt v_frames v_idle v_margin v_parity v_stops v_wide v_deep v_letters v_starts K) → Qc r z1 z2 z3 z4 z5 z6 z7 z8 z9 z10 z11 z12 z13 z14 z15) : wp_X9_guess fu v_wire_ticks v_wire_levels x1 x2 v_asked_bit v_asked_data v_asked_idle v_asked_parity v_asked_stops v_reader_failedStart v_reader_failure v_reader_frames v_reader_margin v_reader_letters v_reader_runs_runs v_reader_runs_ticks v_reader_runs_first v_reader_runs_last v_reader_starts Qc := by
  obtain ⟨L, t, hw, hm, hb⟩ := hW
  obtain rfl := hw.1
  have ht := hw.2.1
  unfold wp_X9_guess
  refine isToldBy_ok (fun c hcl ec hck => wifn (by decide) ?_) (fun hn => wifp rfl ?_)
  · have hg := CK_gok hck
    subst ec
    have hlen := RD_len2 (L := L) hg ht
    have hcode := RD_code (L := L) (t := t) hg t 1 (by omega)
    have hmem := RD_mem (L := L) (t := t) hg t 1 (by omega)
    by_cases g : RG 0 4 x2
    · obtain ⟨j, -, j4, rfl⟩ := id g
      have model : ∀ K : Int32 → Int32 → Int32 → Int32 → Int32 → Int32 → Int32 → Int32 → Int32 → Int32 → (Nat → Int32) → (Nat → Int32) → (Nat → Int32) → Prop, (∀ w1 w2 w3 w4 w5 w6 w7 w8 w9 w10 w11 w12, K (ansG (RD L t (c / 10000) (c / 1000 % 10) (c / 100 % 10) (c / 10 % 10) (nI (1 - c % 10)) 1) (mgl L t (c / 10000) (c / 1000 % 10) (c / 100 % 10) (c / 10 % 10) 360 (RD L t (c / 10000) (c / 1000 % 10) (c / 100 % 10) (c / 10 % 10) (nI (1 - c % 10)) 1).1) j) w1 w2 w3 w4 w5 w6 w7 w8 w9 w10 w11 w12) → wp_X10_guess fu v_now (nI c) (nI j) v_bits v_failed v_failedAt v_frames v_idle v_margin v_parity v_stops v_wide v_deep v_letters v_starts K := by
        intro K hK
        unfold wp_X10_guess
        refine layCode_ok (fun c' hcl' ec' hck' => wifn (by decide) ?_) (fun hn => absurd ⟨c, hcl, rfl, hck⟩ hn)
        obtain rfl : c = c' := nI_inj hcl hcl' ec'
        refine inr_ok (lo := 0) (hi := 4) (by omega) rfl rfl (fun _ => wifn (by decide) ?_) (fun g2 => absurd g g2)
        refine layDeep_ok (by omega) hm (fun de hd => ?_)
        refine readM_ok (by omega) hm hg (fun le st hls => ⟨fun hz => ?_, fun hz mm => ?_⟩)
        · have emg := mglD_ok (idle := nI (1 - c % 10)) hd ht (RD L t (c / 10000) (c / 1000 % 10) (c / 100 % 10) (c / 10 % 10) (nI (1 - c % 10)) 1).1 360 (by omega) (fun x hx => (hmem x hx).2)
          rw [show (360 : Int32) = nI 360 from rfl, emg]
          unfold ansG at hK
          rcases (show j = 0 ∨ j = 1 ∨ j = 2 ∨ j = 3 ∨ j = 4 by omega) with rfl | rfl | rfl | rfl | rfl
          · refine wifp rfl ?_
            apply hK
          · refine wifn (by decide) (wifp rfl ?_)
            rw [if_neg (by omega), if_pos rfl] at hK
            refine fitsM_ok (fun _ g1 => wifn (by decide) ?_) (fun g1 => wifp rfl ?_)
            · rw [if_pos ⟨hz, fun e => g1 (by rw [e]; decide)⟩] at hK; apply hK
            · rw [if_neg (fun e => g1 ⟨rfl, fun q => by rw [show (0 : Int32) = nI 0 from rfl, nI_leI (by omega) (by omega)] at q; omega⟩)] at hK; apply hK
          · refine wifn (by decide) (wifn (by decide) (wifp rfl ?_))
            rw [if_neg (by omega), if_neg (by omega), if_pos rfl, hz] at hK
            apply hK
          · refine wifn (by decide) (wifn (by decide) (wifn (by decide) (wifp rfl ?_)))
            rw [if_neg (by omega), if_neg (by omega), if_neg (by omega), if_pos rfl, if_pos hz] at hK
            apply hK
          · refine wifn (by decide) (wifn (by decide) (wifn (by decide) (wifn (by decide) ?_)))
            rw [if_neg (by omega), if_neg (by omega), if_neg (by omega), if_neg (by omega)] at hK
            refine fitsM_ok (fun _ g1 => wifn (by decide) ?_) (fun g1 => wifp rfl ?_)
            · rw [if_pos ⟨hz, fun e => g1 (by rw [e]; decide)⟩] at hK; apply hK
            · rw [if_neg (fun e => g1 ⟨rfl, fun q => by rw [show (0 : Int32) = nI 0 from rfl, nI_leI (by omega) (by omega)] at q; omega⟩)] at hK; apply hK
        · have hne : ¬ nI (RD L t (c / 10000) (c / 1000 % 10) (c / 100 % 10) (c / 10 % 10) (nI (1 - c % 10)) 1).2.1 = 0 := by rw [show (0 : Int32) = nI 0 from rfl, nI_eq (by omega) (by omega)]; omega
          unfold ansG at hK
          rcases (show j = 0 ∨ j = 1 ∨ j = 2 ∨ j = 3 ∨ j = 4 by omega) with rfl | rfl | rfl | rfl | rfl
          · refine wifp rfl ?_
            apply hK
          · refine wifn (by decide) (wifp rfl ?_)
            rw [if_neg (by omega), if_pos rfl, if_neg (fun e => hz e.1)] at hK
            refine fitsM_ok (fun g1 _ => absurd g1 hne) (fun g1 => wifp rfl ?_)
            apply hK
          · refine wifn (by decide) (wifn (by decide) (wifp rfl ?_))
            rw [if_neg (by omega), if_neg (by omega), if_pos rfl] at hK
            apply hK
          · refine wifn (by decide) (wifn (by decide) (wifn (by decide) (wifp rfl ?_)))
            rw [if_neg (by omega), if_neg (by omega), if_neg (by omega), if_pos rfl, if_neg hz] at hK
            apply hK
          · refine wifn (by decide) (wifn (by decide) (wifn (by decide) (wifn (by decide) ?_)))
            rw [if_neg (by omega), if_neg (by omega), if_neg (by omega), if_neg (by omega), if_neg (fun e => hz e.1)] at hK
            refine fitsM_ok (fun g1 _ => absurd g1 hne) (fun g1 => wifp rfl ?_)
            apply hK
      have h2 := fun z1 z2 z3 z4 z5 z6 z7 z8 z9 z10 z11 z12 z13 z14 z15 => h _ z1 z2 z3 z4 z5 z6 z7 z8 z9 z10 z11 z12 z13 z14 z15 model
      unfold ansG at h2
      refine wifn (nI_pos (by omega)) (wifp (by simp (disch := omega) only [lit_nI, nI_leI]; omega) ?_)
      refine listenTo_ok (by omega) hw (fun fi la hr => ?_)
      refine readC_ok (by omega) hw hb hr hg (fun le st hls => ⟨fun hz => ?_, fun hz mm => ?_⟩)
      · rcases (show j = 0 ∨ j = 1 ∨ j = 2 ∨ j = 3 ∨ j = 4 by omega) with rfl | rfl | rfl | rfl | rfl
        · refine wifp rfl ?_
          apply h2
        · refine wifn (by decide) (wifp rfl ?_)
          rw [if_neg (by omega), if_pos rfl] at h2
          refine fitsC_ok (fun _ g1 => wifn (by decide) ?_) (fun g1 => wifp rfl ?_)
          · rw [if_pos ⟨hz, fun e => g1 (by rw [e]; decide)⟩] at h2; apply h2
          · rw [if_neg (fun e => g1 ⟨rfl, fun q => by rw [show (0 : Int32) = nI 0 from rfl, nI_leI (by omega) (by omega)] at q; omega⟩)] at h2; apply h2
        · refine wifn (by decide) (wifn (by decide) (wifp rfl ?_))
          rw [if_neg (by omega), if_neg (by omega), if_pos rfl, hz] at h2
          apply h2
        · refine wifn (by decide) (wifn (by decide) (wifn (by decide) (wifp rfl ?_)))
          rw [if_neg (by omega), if_neg (by omega), if_neg (by omega), if_pos rfl, if_pos hz] at h2
          apply h2
        · refine wifn (by decide) (wifn (by decide) (wifn (by decide) (wifn (by decide) ?_)))
          rw [if_neg (by omega), if_neg (by omega), if_neg (by omega), if_neg (by omega)] at h2
          refine fitsC_ok (fun _ g1 => wifn (by decide) ?_) (fun g1 => wifp rfl ?_)
          · rw [if_pos ⟨hz, fun e => g1 (by rw [e]; decide)⟩] at h2; apply h2
          · rw [if_neg (fun e => g1 ⟨rfl, fun q => by rw [show (0 : Int32) = nI 0 from rfl, nI_leI (by omega) (by omega)] at q; omega⟩)] at h2; apply h2
      · have hne : ¬ nI (RD L t (c / 10000) (c / 1000 % 10) (c / 100 % 10) (c / 10 % 10) (nI (1 - c % 10)) 1).2.1 = 0 := by rw [show (0 : Int32) = nI 0 from rfl, nI_eq (by omega) (by omega)]; omega
        rcases (show j = 0 ∨ j = 1 ∨ j = 2 ∨ j = 3 ∨ j = 4 by omega) with rfl | rfl | rfl | rfl | rfl
        · refine wifp rfl ?_
          apply h2
        · refine wifn (by decide) (wifp rfl ?_)
          rw [if_neg (by omega), if_pos rfl, if_neg (fun e => hz e.1)] at h2
          refine fitsC_ok (fun g1 _ => absurd g1 hne) (fun g1 => wifp rfl ?_)
          apply h2
        · refine wifn (by decide) (wifn (by decide) (wifp rfl ?_))
          rw [if_neg (by omega), if_neg (by omega), if_pos rfl] at h2
          apply h2
        · refine wifn (by decide) (wifn (by decide) (wifn (by decide) (wifp rfl ?_)))
          rw [if_neg (by omega), if_neg (by omega), if_neg (by omega), if_pos rfl, if_neg hz] at h2
          apply h2
        · refine wifn (by decide) (wifn (by decide) (wifn (by decide) (wifn (by decide) ?_)))
          rw [if_neg (by omega), if_neg (by omega), if_neg (by omega), if_neg (by omega), if_neg (fun e => hz e.1)] at h2
          refine fitsC_ok (fun g1 _ => absurd g1 hne) (fun g1 => wifp rfl ?_)
          apply h2
    · have b : ∀ z1 z2 z3 z4 z5 z6 z7 z8 z9 z10 z11 z12 z13 z14 z15, Qc (-2) z1 z2 z3 z4 z5 z6 z7 z8 z9 z10 z11 z12 z13 z14 z15 := by
        intro z1 z2 z3 z4 z5 z6 z7 z8 z9 z10 z11 z12 z13 z14 z15
        apply h
        intro K hK
        unfold wp_X10_guess
        refine layCode_ok (fun c' hcl' ec' hck' => wifn (by decide) ?_) (fun hn => absurd ⟨c, hcl, rfl, hck⟩ hn)
        refine inr_ok (lo := 0) (hi := 4) (by omega) rfl rfl (fun g2 => absurd g2 g) (fun _ => wifp rfl ?_)
        apply hK
      refine wif (fun _ => ?_) (fun c => wifn (fun c2 => ?_) ?_)
      · apply b
      · have c3 := rg_lo (lo := 0) (by omega) (by omega) g c
        exact nlt_le.mpr c2 c3
      · apply b
  · apply h
    intro K hK
    unfold wp_X10_guess
    refine layCode_ok (fun c' hcl' ec' hck' => absurd ⟨c', hcl', ec', hck'⟩ hn) (fun _ z1 z2 z3 z4 z5 => wifp rfl ?_)
    apply hK
theorem letterAt_any {fu n : Nat} {le : Nat → Int32} {x : Int32} {Q : Int32 → Prop} (hn : n ≤ 60) (h1 : ∀ i, i < n → x = nI i → Q (le i)) (h0 : (¬ ∃ i, i < n ∧ x = nI i) → Q (-9)) : wp_X4_letterAt fu (nI n) le x Q := by
  unfold wp_X4_letterAt
  refine wif (fun c => h0 ?_) (fun c => ?_)
  · rintro ⟨i, hi, rfl⟩
    exact nI_pos (by omega) c
  · obtain ⟨i, hi, rfl⟩ := nI_of c
    refine wif (fun c2 => h0 ?_) (fun c2 => ?_) <;> rw [nI_leI (by omega) hi] at c2
    · rintro ⟨j, hj, e⟩
      have := nI_inj hi (by omega) e
      omega
    · refine ⟨vin (by omega) (by omega), ?_⟩
      rw [ix_nI hi]
      exact h1 i (by omega) rfl
theorem startAt_any {fu n : Nat} {le : Nat → Int32} {x : Int32} {Q : Int32 → Prop} (hn : n ≤ 60) (h1 : ∀ i, i < n → x = nI i → Q (le i)) (h0 : (¬ ∃ i, i < n ∧ x = nI i) → Q (-9)) : wp_X4_startAt fu (nI n) le x Q := letterAt_any (fu := fu) hn h1 h0
theorem inm_ok {fu n : Nat} {x : Int32} {Q : Int32 → Prop} (hn : n ≤ 60) (h1 : ∀ i, i < n → x = nI i → Q 1) (h0 : (¬ ∃ i, i < n ∧ x = nI i) → Q 0) : wp_X10_in fu (Int32.toInt64 x) (0 : Int64) (Int32.toInt64 (nI n - (1 : Int32))) Q := by
  have e : (Int32.toInt64 (nI n - (1 : Int32))).toInt = (n : Int) - 1 := by
    rw [Int32.toInt_toInt64, show (1 : Int32) = nI 1 from rfl, pk_sub_toInt (by omega) (by omega)]
    omega
  refine in_ok (fun c => ?_) (fun c => ?_) <;> rw [e, show (0 : Int64).toInt = 0 from rfl] at c
  · obtain ⟨j, hj, ej⟩ := nI_of (x := x) (by rw [toInt_lt0]; omega)
    rw [ej, nI_toInt hj] at c
    exact h1 j (by omega) ej
  · refine h0 ?_
    rintro ⟨i, hi, rfl⟩
    rw [nI_toInt (by omega)] at c
    omega
theorem letter_both {fu : Nat} {v_wire_ticks : Int32} {v_wire_levels : (Nat → Int32)} {x1 : Int32} {x2 : Int32} {x3 : Int32} {v_asked_bit : Int32} {v_asked_data : Int32} {v_asked_idle : Int32} {v_asked_parity : Int32} {v_asked_stops : Int32} {v_reader_failedStart : Int32} {v_reader_failure : Int32} {v_reader_frames : Int32} {v_reader_margin : Int32} {v_reader_letters : (Nat → Int32)} {v_reader_runs_runs : Int32} {v_reader_runs_ticks : Int32} {v_reader_runs_first : (Nat → Int32)} {v_reader_runs_last : (Nat → Int32)} {v_reader_starts : (Nat → Int32)} {v_deep : (Nat → Int32)} {v_now : (Nat → Int32)} {v_bits : Int32} {v_failed : Int32} {v_failedAt : Int32} {v_frames : Int32} {v_idle : Int32} {v_margin : Int32} {v_parity : Int32} {v_stops : Int32} {v_wide : Int32} {v_letters : (Nat → Int32)} {v_starts : (Nat → Int32)} {Qc : Int32 → Int32 → Int32 → Int32 → Int32 → Int32 → Int32 → Int32 → Int32 → Int32 → (Nat → Int32) → Int32 → Int32 → (Nat → Int32) → (Nat → Int32) → (Nat → Int32) → Prop} (hfu : 1000 ≤ fu) (hW : WI v_wire_ticks v_wire_levels v_now)
    (h : ∀ (r : Int32) (z1 : Int32) (z2 : Int32) (z3 : Int32) (z4 : Int32) (z5 : Int32) (z6 : Int32) (z7 : Int32) (z8 : Int32) (z9 : Int32) (z10 : (Nat → Int32)) (z11 : Int32) (z12 : Int32) (z13 : (Nat → Int32)) (z14 : (Nat → Int32)) (z15 : (Nat → Int32)), (∀ K : Int32 → Int32 → Int32 → Int32 → Int32 → Int32 → Int32 → Int32 → Int32 → Int32 → (Nat → Int32) → (Nat → Int32) → Prop, (∀ (w1 : Int32) (w2 : Int32) (w3 : Int32) (w4 : Int32) (w5 : Int32) (w6 : Int32) (w7 : Int32) (w8 : Int32) (w9 : Int32) (w10 : (Nat → Int32)) (w11 : (Nat → Int32)), K r w1 w2 w3 w4 w5 w6 w7 w8 w9 w10 w11) → wp_X10_letter fu v_deep v_now x1 x2 x3 v_bits v_failed v_failedAt v_frames v_idle v_margin v_parity v_stops v_wide v_letters v_starts K) → Qc r z1 z2 z3 z4 z5 z6 z7 z8 z9 z10 z11 z12 z13 z14 z15) : wp_X9_letter fu v_wire_ticks v_wire_levels x1 x2 x3 v_asked_bit v_asked_data v_asked_idle v_asked_parity v_asked_stops v_reader_failedStart v_reader_failure v_reader_frames v_reader_margin v_reader_letters v_reader_runs_runs v_reader_runs_ticks v_reader_runs_first v_reader_runs_last v_reader_starts Qc := by
  obtain ⟨L, t, hw, hm, hb⟩ := hW
  obtain rfl := hw.1
  have ht := hw.2.1
  unfold wp_X9_letter
  refine isToldBy_ok (fun c hcl ec hck => wifn (by decide) ?_) (fun hn => wifp rfl ?_)
  · have hg := CK_gok hck
    subst ec
    have hlen := RD_len2 (L := L) hg ht
    have model : ∀ K : Int32 → Int32 → Int32 → Int32 → Int32 → Int32 → Int32 → Int32 → Int32 → Int32 → (Nat → Int32) → (Nat → Int32) → Prop, (∀ a le st, LSt L (c / 10000) (c / 1000 % 10) (c / 100 % 10) (c / 10 % 10) (nI (1 - c % 10)) le st (RD L t (c / 10000) (c / 1000 % 10) (c / 100 % 10) (c / 10 % 10) (nI (1 - c % 10)) 1).1 → (∀ i, i < (RD L t (c / 10000) (c / 1000 % 10) (c / 100 % 10) (c / 10 % 10) (nI (1 - c % 10)) 1).1.length → x2 = nI i → a = if x3 = 0 then le i else st i) → ((¬ ∃ i, i < (RD L t (c / 10000) (c / 1000 % 10) (c / 100 % 10) (c / 10 % 10) (nI (1 - c % 10)) 1).1.length ∧ x2 = nI i) → a = -9) → ∀ w1 w2 w3 w4 w5 w6 w7 w8 w9 w10 w11, K a w1 w2 w3 w4 w5 w6 w7 w8 w9 w10 w11) → wp_X10_letter fu v_deep v_now (nI c) x2 x3 v_bits v_failed v_failedAt v_frames v_idle v_margin v_parity v_stops v_wide v_letters v_starts K := by
      intro K hK
      unfold wp_X10_letter
      refine layCode_ok (fun c' hcl' ec' hck' => wifn (by decide) ?_) (fun hn => absurd ⟨c, hcl, rfl, hck⟩ hn)
      obtain rfl : c = c' := nI_inj hcl hcl' ec'
      have fin : ∀ le st, LSt L (c / 10000) (c / 1000 % 10) (c / 100 % 10) (c / 10 % 10) (nI (1 - c % 10)) le st (RD L t (c / 10000) (c / 1000 % 10) (c / 100 % 10) (c / 10 % 10) (nI (1 - c % 10)) 1).1 → ∀ w1 w2 w3 w4 w5 w6 w7 w8 w9, wp_X10_in fu (Int32.toInt64 x2) (0 : Int64) (Int32.toInt64 (nI (RD L t (c / 10000) (c / 1000 % 10) (c / 100 % 10) (c / 10 % 10) (nI (1 - c % 10)) 1).1.length - (1 : Int32))) (fun r14 => if r14 = 0 then K (-9) w1 w2 w3 w4 w5 w6 w7 w8 w9 le st else if x3 = 0 then (vp_in x2 64 ∧ K (le (ix x2)) w1 w2 w3 w4 w5 w6 w7 w8 w9 le st) else (vp_in x2 64 ∧ K (st (ix x2)) w1 w2 w3 w4 w5 w6 w7 w8 w9 le st)) := by
        intro le st hls w1 w2 w3 w4 w5 w6 w7 w8 w9
        refine inm_ok hlen (fun i hi e => wifn (by decide) ?_) (fun g => wifp rfl (hK _ le st hls (fun i hi e => absurd ⟨i, hi, e⟩ g) (fun _ => rfl) _ _ _ _ _ _ _ _ _ _ _))
        have hv : vp_in x2 64 := by rw [e]; exact vin (by omega) (by omega)
        have ex : ix x2 = i := by rw [e, ix_nI (by omega)]
        refine wif (fun c1 => ⟨hv, ?_⟩) (fun c1 => ⟨hv, ?_⟩)
        · refine hK _ le st hls (fun i' hi' e' => ?_) (fun g => absurd ⟨i, hi, e⟩ g) _ _ _ _ _ _ _ _ _ _ _
          rw [if_pos c1, ex, nI_inj (by omega) (by omega) (e.symm.trans e')]
        · refine hK _ le st hls (fun i' hi' e' => ?_) (fun g => absurd ⟨i, hi, e⟩ g) _ _ _ _ _ _ _ _ _ _ _
          rw [if_neg c1, ex, nI_inj (by omega) (by omega) (e.symm.trans e')]
      exact readM_ok (by omega) hm hg (fun le st hls => ⟨fun hz => fin le st hls _ _ _ _ _ _ _ _ _, fun hz mm => fin le st hls _ _ _ _ _ _ _ _ _⟩)
    have cl : ∀ (a : Int32) (le st : Nat → Int32), LSt L (c / 10000) (c / 1000 % 10) (c / 100 % 10) (c / 10 % 10) (nI (1 - c % 10)) le st (RD L t (c / 10000) (c / 1000 % 10) (c / 100 % 10) (c / 10 % 10) (nI (1 - c % 10)) 1).1 → (∀ i, i < (RD L t (c / 10000) (c / 1000 % 10) (c / 100 % 10) (c / 10 % 10) (nI (1 - c % 10)) 1).1.length → x2 = nI i → a = if x3 = 0 then le i else st i) → ((¬ ∃ i, i < (RD L t (c / 10000) (c / 1000 % 10) (c / 100 % 10) (c / 10 % 10) (nI (1 - c % 10)) 1).1.length ∧ x2 = nI i) → a = -9) → ∀ z1 z2 z3 z4 z5 z6 z7 z8 z9 z10 z11 z12 z13 z14 z15, Qc a z1 z2 z3 z4 z5 z6 z7 z8 z9 z10 z11 z12 z13 z14 z15 := by
      intro a le st hls q1 q2 z1 z2 z3 z4 z5 z6 z7 z8 z9 z10 z11 z12 z13 z14 z15
      apply h
      intro K hK
      refine model K (fun a' le' st' hls' q1' q2' w1 w2 w3 w4 w5 w6 w7 w8 w9 w10 w11 => ?_)
      have e : a' = a := by
        by_cases g : ∃ i, i < (RD L t (c / 10000) (c / 1000 % 10) (c / 100 % 10) (c / 10 % 10) (nI (1 - c % 10)) 1).1.length ∧ x2 = nI i
        · obtain ⟨i, hi, e⟩ := g
          rw [q1 i hi e, q1' i hi e]
          have s1 := hls i _ (List.getElem?_eq_getElem hi)
          have s2 := hls' i _ (List.getElem?_eq_getElem hi)
          rw [s1.1, s1.2, s2.1, s2.2]
        · rw [q2 g, q2' g]
      rw [e]
      apply hK
    refine listenTo_ok (by omega) hw (fun fi la hr => ?_)
    refine readC_ok (by omega) hw hb hr hg (fun le st hls => ⟨fun hz => ?_, fun hz mm => ?_⟩)
    · refine wif (fun c1 => ?_) (fun c1 => ?_)
      · exact letterAt_any hlen (fun i hi e => cl _ le st hls (fun i' hi' e' => by rw [if_pos c1, nI_inj (by omega) (by omega) (e.symm.trans e')]) (fun g => absurd ⟨i, hi, e⟩ g) _ _ _ _ _ _ _ _ _ _ _ _ _ _ _) (fun g => cl _ le st hls (fun i hi e => absurd ⟨i, hi, e⟩ g) (fun _ => rfl) _ _ _ _ _ _ _ _ _ _ _ _ _ _ _)
      · exact startAt_any hlen (fun i hi e => cl _ le st hls (fun i' hi' e' => by rw [if_neg c1, nI_inj (by omega) (by omega) (e.symm.trans e')]) (fun g => absurd ⟨i, hi, e⟩ g) _ _ _ _ _ _ _ _ _ _ _ _ _ _ _) (fun g => cl _ le st hls (fun i hi e => absurd ⟨i, hi, e⟩ g) (fun _ => rfl) _ _ _ _ _ _ _ _ _ _ _ _ _ _ _)
    · refine wif (fun c1 => ?_) (fun c1 => ?_)
      · exact letterAt_any hlen (fun i hi e => cl _ le st hls (fun i' hi' e' => by rw [if_pos c1, nI_inj (by omega) (by omega) (e.symm.trans e')]) (fun g => absurd ⟨i, hi, e⟩ g) _ _ _ _ _ _ _ _ _ _ _ _ _ _ _) (fun g => cl _ le st hls (fun i hi e => absurd ⟨i, hi, e⟩ g) (fun _ => rfl) _ _ _ _ _ _ _ _ _ _ _ _ _ _ _)
      · exact startAt_any hlen (fun i hi e => cl _ le st hls (fun i' hi' e' => by rw [if_neg c1, nI_inj (by omega) (by omega) (e.symm.trans e')]) (fun g => absurd ⟨i, hi, e⟩ g) _ _ _ _ _ _ _ _ _ _ _ _ _ _ _) (fun g => cl _ le st hls (fun i hi e => absurd ⟨i, hi, e⟩ g) (fun _ => rfl) _ _ _ _ _ _ _ _ _ _ _ _ _ _ _)
  · apply h
    intro K hK
    unfold wp_X10_letter
    refine layCode_ok (fun c' hcl' ec' hck' => absurd ⟨c', hcl', ec', hck'⟩ hn) (fun _ z1 z2 z3 z4 z5 => wifp rfl ?_)
    apply hK
