/-! letters by a seed -/
theorem and255 (x : Int32) : ∃ u, u < 256 ∧ x &&& 255 = nI u := by
  refine ⟨(x &&& 255).toBitVec.toNat, ?_, ?_⟩
  · rw [Int32.toBitVec_and, BitVec.toNat_and]
    have : x.toBitVec.toNat &&& (255 : Int32).toBitVec.toNat ≤ (255 : Int32).toBitVec.toNat := Nat.and_le_right
    have e : (255 : Int32).toBitVec.toNat = 255 := by decide
    omega
  · apply Int32.toBitVec_inj.mp
    unfold nI
    rw [Int32.toBitVec_ofNat', BitVec.ofNat_toNat, BitVec.setWidth_eq]
theorem flip2 {L tr : Nat → Int32} {t j : Nat} (hm : MW tr L t) (hj : j < t) : MW (upd tr j (1 - tr j)) (fl L j) t := by
  have ht := hm.2.1
  refine ⟨by rw [upd_n (by omega)]; exact hm.1, ht, fun i hi => ?_⟩
  rw [upd_ite, fl]
  by_cases e : i = j
  · rw [if_pos e, if_pos e, e, hm.2.2 j hj]
  · rw [if_neg e, if_neg e, hm.2.2 i hi]
theorem doDrawn_33 {fu t : Nat} {L tl : Nat → Int32} {a1 a2 a3 a4 a5 v : Int32} {Q : Int32 → (Nat → Int32) → Prop} (hw : CW tl (nI t) L t) (hb : Bt L t)
    (h : ∀ (L1 : Nat → Int32) (tl1 : Nat → Int32), CW tl1 (nI t) L1 t → Bt L1 t → (∀ (tr : Nat → Int32) (K : (Nat → Int32) → Prop), MW tr L t → (∀ tr1, MW tr1 L1 t → K tr1) → ∀ y : Int32, y = irm (v / 256) 400 → wp_X10_isTick fu tr y (fun r17 => if r17 = 0 then K tr else if irm (v / 131072) 4 = 0 then (vp_in y 361 ∧ (vp_in y 361 ∧ K (upd tr (ix y) (1 - tr (ix y))))) else K tr)) → Q (nI t) tl1) : wX9_doDrawn_33 fu a1 a2 a3 a4 a5 v Q (nI t) tl := by
  have ht := hw.2.1
  unfold wX9_doDrawn_33
  intro y ey
  refine has_any ht (fun j hj e => wifn (by decide) ?_) (fun g => wifp rfl ?_)
  · refine wif (fun g2 => ?_) (fun g2 => ?_)
    · rw [e]
      refine turnOver_ok hw hj (fun tl1 hw1 => ?_)
      refine h (fl L j) tl1 hw1 (Bt_fl hb) (fun tr K hm hK y2 ey2 => ?_)
      obtain rfl : y2 = y := by rw [ey, ey2]
      refine isTick_any hm (fun _ _ _ => wifn (by decide) (wifp g2 ?_)) (fun g => absurd ⟨j, hj, e⟩ g)
      have hv : vp_in y2 361 := by rw [e]; exact vin (by omega) (by omega)
      refine ⟨hv, hv, hK _ ?_⟩
      rw [e, ix_nI (by omega)]
      exact flip2 hm hj
    · refine h L tl hw hb (fun tr K hm hK y2 ey2 => ?_)
      obtain rfl : y2 = y := by rw [ey, ey2]
      exact isTick_any hm (fun _ _ _ => wifn (by decide) (wifn g2 (hK _ hm))) (fun g => absurd ⟨j, hj, e⟩ g)
  · refine h L tl hw hb (fun tr K hm hK y2 ey2 => ?_)
    obtain rfl : y2 = y := by rw [ey, ey2]
    exact isTick_any hm (fun j hj e => absurd ⟨j, hj, e⟩ g) (fun _ => wifp rfl (hK _ hm))
theorem doDrawn_ok {fu t b d p s : Nat} {L tl : Nat → Int32} {idle v : Int32} {Q : Int32 → (Nat → Int32) → Prop} (hfu : 1000 ≤ fu) (hg : GOK b d p s idle) (hw : CW tl (nI t) L t) (hb : Bt L t)
    (h : ∀ (L1 : Nat → Int32) (t1 : Nat) (tl1 : Nat → Int32), CW tl1 (nI t1) L1 t1 → Bt L1 t1 → (∀ (tr : Nat → Int32) (K : (Nat → Int32) → Prop), MW tr L t → (∀ tr1, MW tr1 L1 t1 → K tr1) → wp_X10_hasRoom fu (nI d) (nI p) (nI s) (nI b) tr (fun r13 => if r13 = 0 then (∀ y : Int32, y = irm (v / 256) 400 → wp_X10_isTick fu tr y (fun r17 => if r17 = 0 then K tr else if irm (v / 131072) 4 = 0 then (vp_in y 361 ∧ (vp_in y 361 ∧ K (upd tr (ix y) (1 - tr (ix y))))) else K tr)) else wp_X10_sendOn fu (nI d) idle (nI p) (nI s) (nI b) (v &&& 255) tr (fun z15 => ∀ y : Int32, y = irm (v / 256) 400 → wp_X10_isTick fu z15 y (fun r17 => if r17 = 0 then K z15 else if irm (v / 131072) 4 = 0 then (vp_in y 361 ∧ (vp_in y 361 ∧ K (upd z15 (ix y) (1 - z15 (ix y))))) else K z15)))) → Q (nI t1) tl1) : wp_X9_doDrawn fu (nI b) (nI d) idle (nI p) (nI s) v (nI t) tl Q := by
  have ht := hw.2.1
  have hnb := nbb_le hg
  obtain ⟨u, hu, eu⟩ := and255 v
  unfold wp_X9_doDrawn
  refine ticksOfLetter_ok hg (hasPlaceFor_ok ht (by omega) (fun g3 => wifn (by decide) ?_) (fun g3 => wifp rfl ?_))
  · rw [eu] at h ⊢
    refine extendByLetter_ok (by omega) hw hg hu g3 (fun lev1 hw1 => ?_)
    refine doDrawn_33 hw1 (Bt_SD hb hg.2.2.2.2.2.2.2) (fun L1 tl1 hw2 hb2 hmod => ?_)
    refine h L1 _ tl1 hw2 hb2 (fun tr K hm hK => ?_)
    refine hasRoom_ok hm hg (fun _ => wifn (by decide) ?_) (fun g => by omega)
    refine sendOn_ok (by omega) hm hg hu g3 (fun r hr => ?_)
    exact hmod r K hr hK
  · refine doDrawn_33 hw hb (fun L1 tl1 hw2 hb2 hmod => ?_)
    refine h L1 _ tl1 hw2 hb2 (fun tr K hm hK => ?_)
    exact hasRoom_ok hm hg (fun g => by omega) (fun _ => wifp rfl (hmod tr K hm hK))
theorem drawn_lp {fu n b d p s : Nat} {idle wtk x1 y1 : Int32} {wlv now de : Nat → Int32} {Qc : Int32 → Int64 → Int32 → Int32 → Int32 → Int32 → Int32 → Int32 → Int32 → Int32 → Int32 → (Nat → Int32) → Int32 → Int32 → (Nat → Int32) → (Nat → Int32) → (Nat → Int32) → Int32 → (Nat → Int32) → Prop} (hfu : 1000 ≤ fu) (hn : n ≤ 10) (hg : GOK b d p s idle) : ∀ (j fuel k t : Nat) (L tl : Nat → Int32) (x3 : Int32) (sd : Int64) (c0 : Int32) (c1 : Int32) (c2 : Int32) (c3 : Int32) (c4 : (Nat → Int32)) (c5 : Int32) (c6 : Int32) (c7 : (Nat → Int32)) (c8 : (Nat → Int32)) (c9 : (Nat → Int32)), k + j = n → j < fuel → CW tl (nI t) L t → Bt L t →
    (∀ (r : Int32) (sd1 : Int64) (a1 a2 a3 a4 a5 : Int32) (d0 : Int32) (d1 : Int32) (d2 : Int32) (d3 : Int32) (d4 : (Nat → Int32)) (d5 : Int32) (d6 : Int32) (d7 : (Nat → Int32)) (d8 : (Nat → Int32)) (d9 : (Nat → Int32)) (tt1 : Int32) (tl1 : Nat → Int32), (∀ (fuel1 : Nat) (K : Int32 → Int32 → Int32 → Int32 → Int32 → Int32 → Int32 → Int32 → Int64 → Int32 → Int32 → (Nat → Int32) → (Nat → Int32) → (Nat → Int32) → Prop) (tr : Nat → Int32) (f1 f2 f3 f4 : Int32) (le st : Nat → Int32), j < fuel1 → MW tr L t → (∀ (w1 w2 w3 w4 w5 w6 w7 w9 w10 : Int32) (w11 w12 w13 : Nat → Int32), K r w1 w2 w3 w4 w5 w6 w7 sd1 w9 w10 w11 w12 w13) → wX10_drawn_39 fu de now y1 (nI n) K fuel1 x3 (nI k) (nI d) f1 f2 f3 idle f4 (nI p) sd (nI s) (nI b) le st tr) → Qc r sd1 a1 a2 a3 a4 a5 d0 d1 d2 d3 d4 d5 d6 d7 d8 d9 tt1 tl1) →
    wX9_drawn_41 fu wtk wlv x1 (nI n) Qc fuel x3 (nI k) sd (nI b) (nI d) idle (nI p) (nI s) c0 c1 c2 c3 c4 c5 c6 c7 c8 c9 (nI t) tl := by
  intro j
  induction j with
  | zero =>
    intro fuel k t L tl x3 sd c0 c1 c2 c3 c4 c5 c6 c7 c8 c9 hk hf hw hb hq
    obtain ⟨f, rfl⟩ : ∃ f, fuel = f + 1 := ⟨fuel - 1, by omega⟩
    unfold wX9_drawn_41
    refine wifp (by rw [nI_leI (by omega) (by omega)]; omega) ?_
    apply hq
    intro fuel1 K tr f1 f2 f3 f4 le st hf1 hm hK
    obtain ⟨f1, rfl⟩ : ∃ f, fuel1 = f + 1 := ⟨fuel1 - 1, by omega⟩
    unfold wX10_drawn_39
    refine wifp (by rw [nI_leI (by omega) (by omega)]; omega) ?_
    apply hK
  | succ j ih =>
    intro fuel k t L tl x3 sd c0 c1 c2 c3 c4 c5 c6 c7 c8 c9 hk hf hw hb hq
    obtain ⟨f, rfl⟩ : ∃ f, fuel = f + 1 := ⟨fuel - 1, by omega⟩
    unfold wX9_drawn_41
    refine wifn (by rw [nI_leI (by omega) (by omega)]; omega) ?_
    refine doDrawn_ok hfu hg hw hb (fun L1 t1 tl1 hw1 hb1 hmod => ?_)
    refine listenTo_ok (by omega) hw1 (fun fi la hr => ?_)
    have fin : ∀ (fs fl mm : Int32) (le st : Nat → Int32), ∀ y25 : Int32, y25 = x3 + nI (RD L1 t1 b d p s idle 1).1.length → wX9_drawn_41 fu wtk wlv x1 (nI n) Qc f y25 (nI k + 1) (sd * 6364136223846793005 + 1442695040888963407) (nI b) (nI d) idle (nI p) (nI s) fs fl (nI (RD L1 t1 b d p s idle 1).1.length) mm le (nI (rc L1 t1)) (nI t1) fi la st (nI t1) tl1 := by
      intro fs fl mm le st y25 ey
      rw [show (1 : Int32) = nI 1 from rfl, nI_add]
      refine ih f (k + 1) t1 L1 tl1 y25 _ _ _ _ _ _ _ _ _ _ _ (by omega) (by omega) hw1 hb1 (fun r sd1 a1 a2 a3 a4 a5 d0 d1 d2 d3 d4 d5 d6 d7 d8 d9 tt2 tl2 hM => ?_)
      apply hq
      intro fuel1 K tr f1 f2 f3 f4 le st hf1 hm hK
      obtain ⟨g1, rfl⟩ : ∃ f, fuel1 = f + 1 := ⟨fuel1 - 1, by omega⟩
      unfold wX10_drawn_39
      refine wifn (by rw [nI_leI (by omega) (by omega)]; omega) ?_
      intro y12 ey12
      subst ey12
      unfold wX10_drawn_96
      refine hmod tr (fun tr1 => wX10_drawn_147 fu de now y1 (nI n) K (wX10_drawn_39 fu de now y1 (nI n) K g1) x3 (nI k) (nI d) f1 f2 f3 idle f4 (nI p) (sd * 6364136223846793005 + 1442695040888963407) (nI s) (nI b) le st tr1) hm (fun tr1 hm1 => ?_)
      unfold wX10_drawn_147
      refine readM_ok (by omega) hm1 hg (fun le1 st1 _ => ⟨fun _ => ?_, fun _ mm1 => ?_⟩)
      · intro y28 ey28
        rw [← ey] at ey28
        subst ey28
        rw [show (1 : Int32) = nI 1 from rfl, nI_add]
        exact hM g1 K tr1 _ _ _ _ _ _ (by omega) hm1 hK
      · intro y28 ey28
        rw [← ey] at ey28
        subst ey28
        rw [show (1 : Int32) = nI 1 from rfl, nI_add]
        exact hM g1 K tr1 _ _ _ _ _ _ (by omega) hm1 hK
    exact readC_ok (by omega) hw1 hb1 hr hg (fun le st _ => ⟨fun _ => fin _ _ _ _ _, fun _ mm => fin _ _ _ _ _⟩)
theorem seed_both {fu : Nat} {x1 : Int64} {v_seedNow : Int64} {v_seed : Int64} {Qc : Int64 → Int64 → Prop} (hfu : 1000 ≤ fu) (hs : v_seedNow = v_seed)
    (h : ∀ (r : Int64) (z1 : Int64), (∀ K : Int64 → Int64 → Prop, (∀ (w1 : Int64), z1 = w1 → K r w1) → wp_X10_seed fu x1 v_seed K) → Qc r z1) : wp_X9_seed fu x1 v_seedNow Qc := by
  subst hs
  unfold wp_X9_seed
  apply h
  intro K hK
  unfold wp_X10_seed
  exact hK _ rfl
theorem drawn_both {fu : Nat} {v_wire_ticks : Int32} {v_wire_levels : (Nat → Int32)} {x1 : Int32} {x2 : Int32} {v_seedNow : Int64} {v_asked_bit : Int32} {v_asked_data : Int32} {v_asked_idle : Int32} {v_asked_parity : Int32} {v_asked_stops : Int32} {v_reader_failedStart : Int32} {v_reader_failure : Int32} {v_reader_frames : Int32} {v_reader_margin : Int32} {v_reader_letters : (Nat → Int32)} {v_reader_runs_runs : Int32} {v_reader_runs_ticks : Int32} {v_reader_runs_first : (Nat → Int32)} {v_reader_runs_last : (Nat → Int32)} {v_reader_starts : (Nat → Int32)} {v_trial_ticks : Int32} {v_trial_levels : (Nat → Int32)} {v_deep : (Nat → Int32)} {v_now : (Nat → Int32)} {v_bits : Int32} {v_failed : Int32} {v_failedAt : Int32} {v_frames : Int32} {v_idle : Int32} {v_margin : Int32} {v_parity : Int32} {v_seed : Int64} {v_stops : Int32} {v_wide : Int32} {v_letters : (Nat → Int32)} {v_starts : (Nat → Int32)} {v_trial : (Nat → Int32)} {Qc : Int32 → Int64 → Int32 → Int32 → Int32 → Int32 → Int32 → Int32 → Int32 → Int32 → Int32 → (Nat → Int32) → Int32 → Int32 → (Nat → Int32) → (Nat → Int32) → (Nat → Int32) → Int32 → (Nat → Int32) → Prop} (hfu : 1000 ≤ fu) (hW : WI v_wire_ticks v_wire_levels v_now) (hs : v_seedNow = v_seed)
    (h : ∀ (r : Int32) (z1 : Int64) (z2 : Int32) (z3 : Int32) (z4 : Int32) (z5 : Int32) (z6 : Int32) (z7 : Int32) (z8 : Int32) (z9 : Int32) (z10 : Int32) (z11 : (Nat → Int32)) (z12 : Int32) (z13 : Int32) (z14 : (Nat → Int32)) (z15 : (Nat → Int32)) (z16 : (Nat → Int32)) (z17 : Int32) (z18 : (Nat → Int32)), (∀ K : Int32 → Int32 → Int32 → Int32 → Int32 → Int32 → Int32 → Int32 → Int64 → Int32 → Int32 → (Nat → Int32) → (Nat → Int32) → (Nat → Int32) → Prop, (∀ (w1 : Int32) (w2 : Int32) (w3 : Int32) (w4 : Int32) (w5 : Int32) (w6 : Int32) (w7 : Int32) (w8 : Int64) (w9 : Int32) (w10 : Int32) (w11 : (Nat → Int32)) (w12 : (Nat → Int32)) (w13 : (Nat → Int32)), z1 = w8 → K r w1 w2 w3 w4 w5 w6 w7 w8 w9 w10 w11 w12 w13) → wp_X10_drawn fu v_deep v_now x1 x2 v_bits v_failed v_failedAt v_frames v_idle v_margin v_parity v_seed v_stops v_wide v_letters v_starts v_trial K) → Qc r z1 z2 z3 z4 z5 z6 z7 z8 z9 z10 z11 z12 z13 z14 z15 z16 z17 z18) : wp_X9_drawn fu v_wire_ticks v_wire_levels x1 x2 v_seedNow v_asked_bit v_asked_data v_asked_idle v_asked_parity v_asked_stops v_reader_failedStart v_reader_failure v_reader_frames v_reader_margin v_reader_letters v_reader_runs_runs v_reader_runs_ticks v_reader_runs_first v_reader_runs_last v_reader_starts v_trial_ticks v_trial_levels Qc := by
  obtain ⟨L, t, hw, hm, hb⟩ := hW
  obtain rfl := hw.1
  have ht := hw.2.1
  subst hs
  unfold wp_X9_drawn
  refine isToldBy_ok (fun c hcl ec hck => wifn (by decide) ?_) (fun hn => wifp rfl ?_)
  · have hg := CK_gok hck
    subst ec
    by_cases g : RG 1 10 x2
    · obtain ⟨n, n1, n2, e⟩ := id g
      subst e
      refine wifn (by rw [show (1 : Int32) = nI 1 from rfl, nI_ltI (by omega) (by omega)]; omega) (wifp (by rw [show (10 : Int32) = nI 10 from rfl, nI_leI (by omega) (by omega)]; omega) ?_)
      refine copy_ok hw (fun lev1 hw1 => ?_)
      refine drawn_lp (now := v_now) (de := v_deep) (y1 := nI c) hfu n2 hg n fu 0 t L lev1 0 _ _ _ _ _ _ _ _ _ _ _ (by omega) (by omega) hw1 hb (fun r sd1 a1 a2 a3 a4 a5 d0 d1 d2 d3 d4 d5 d6 d7 d8 d9 tt1 tl1 hM => ?_)
      apply h
      intro K hK
      unfold wp_X10_drawn
      refine layCode_ok (fun c' hcl' ec' hck' => wifn (by decide) ?_) (fun hn => absurd ⟨c, hcl, rfl, hck⟩ hn)
      obtain rfl : c = c' := nI_inj hcl hcl' ec'
      refine inr_ok (lo := 1) (hi := 10) (by omega) rfl rfl (fun _ => wifn (by decide) ?_) (fun g2 => absurd g g2)
      refine copyM_ok (by omega) (fun tr htr => ?_)
      refine hM fu K tr _ _ _ _ _ _ (by omega) (MW_eq hm htr) (fun w1 w2 w3 w4 w5 w6 w7 w9 w10 w11 w12 w13 => ?_)
      exact hK _ _ _ _ _ _ _ _ _ _ _ _ _ rfl
    · have b : ∀ a0 a1 a2 a3 a4 a5 a6 a7 a8 a9 a10 a11 a12 a13 a14 a15 a16, Qc (-2) v_seedNow a0 a1 a2 a3 a4 a5 a6 a7 a8 a9 a10 a11 a12 a13 a14 a15 a16 := by
        intro a0 a1 a2 a3 a4 a5 a6 a7 a8 a9 a10 a11 a12 a13 a14 a15 a16
        apply h
        intro K hK
        unfold wp_X10_drawn
        refine layCode_ok (fun c' hcl' ec' hck' => wifn (by decide) ?_) (fun hn => absurd ⟨c, hcl, rfl, hck⟩ hn)
        refine inr_ok (lo := 1) (hi := 10) (by omega) rfl rfl (fun g2 => absurd g2 g) (fun _ => wifp rfl ?_)
        exact hK _ _ _ _ _ _ _ _ _ _ _ _ _ rfl
      refine wif (fun _ => ?_) (fun c => wifn (fun c2 => ?_) ?_)
      · apply b
      · exact nlt_le.mpr c2 (rg_lo (lo := 1) (hi := 10) (by omega) (by omega) g c)
      · apply b
  · apply h
    intro K hK
    unfold wp_X10_drawn
    refine layCode_ok (fun c' hcl' ec' hck' => absurd ⟨c', hcl', ec', hck'⟩ hn) (fun _ z1 z2 z3 z4 z5 => wifp rfl ?_)
    exact hK _ _ _ _ _ _ _ _ _ _ _ _ _ rfl
