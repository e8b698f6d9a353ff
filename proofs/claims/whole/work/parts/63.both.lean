/-! ranges -/
def RG (lo hi : Nat) (x : Int32) : Prop := ∃ j, lo ≤ j ∧ j ≤ hi ∧ x = nI j
theorem RG_iff {lo hi : Nat} {x : Int32} (h : hi < 2 ^ 31) : RG lo hi x ↔ (lo : Int) ≤ x.toInt ∧ x.toInt ≤ (hi : Int) := by
  constructor
  · rintro ⟨j, h1, h2, rfl⟩
    rw [nI_toInt (by omega)]
    omega
  · rintro ⟨h1, h2⟩
    obtain ⟨j, hj, e⟩ := nI_of (x := x) (by rw [toInt_lt0]; omega)
    rw [e, nI_toInt hj] at h1 h2
    exact ⟨j, by omega, by omega, e⟩
theorem inr_ok {fu lo hi : Nat} {x : Int32} {l h : Int64} {Q : Int32 → Prop} (hh : hi < 2 ^ 31) (el : l.toInt = (lo : Int)) (eh : h.toInt = (hi : Int)) (h1 : RG lo hi x → Q 1) (h0 : ¬ RG lo hi x → Q 0) : wp_X10_in fu (Int32.toInt64 x) l h Q := by
  refine in_ok (fun c => ?_) (fun c => ?_) <;> rw [el, eh, ← RG_iff hh] at c
  · exact h1 c
  · exact h0 c
theorem rg_lo {lo hi : Nat} {x : Int32} (hh : hi < 2 ^ 31) (hl : lo < 2 ^ 31) (h : ¬ RG lo hi x) (h1 : ¬ x < nI lo) : nI hi < x := by
  rw [RG_iff hh] at h
  rw [Int32.lt_iff_toInt_lt, nI_toInt hl] at h1
  rw [Int32.lt_iff_toInt_lt, nI_toInt hh]
  omega
theorem rg_in {lo hi : Nat} {x : Int32} (hh : hi < 2 ^ 31) (hl : lo < 2 ^ 31) (h1 : ¬ x < nI lo) (h2 : ¬ nI hi < x) : RG lo hi x := by
  rw [RG_iff hh]
  rw [Int32.lt_iff_toInt_lt, nI_toInt hl] at h1
  rw [Int32.lt_iff_toInt_lt, nI_toInt hh] at h2
  omega
theorem nlt_le {x y : Int32} : ¬ x < y ↔ y ≤ x := by
  rw [Int32.lt_iff_toInt_lt, Int32.le_iff_toInt_le]; omega
theorem isLevel_ok {fu : Nat} {x : Int32} {Q : Int32 → Prop} (h1 : RG 0 1 x → Q 1) (h0 : ¬ RG 0 1 x → Q 0) : wp_X9_isLevel fu x Q := by
  unfold wp_X9_isLevel wX9_isLevel_9
  refine wif (fun c => h1 ⟨0, by omega, by omega, c⟩) (fun c => wif (fun c2 => h1 ⟨1, by omega, by omega, c2⟩) (fun c2 => h0 ?_))
  rintro ⟨j, g1, g2, e⟩
  rcases (show j = 0 ∨ j = 1 by omega) with rfl | rfl
  · exact c e
  · exact c2 e
theorem isLetter_ok {fu : Nat} {x : Int32} {Q : Int32 → Prop} (h1 : RG 0 255 x → Q 1) (h0 : ¬ RG 0 255 x → Q 0) : wp_X9_isLetter fu x Q := by
  unfold wp_X9_isLetter
  refine wif (fun c => h0 ?_) (fun c => wif (fun c2 => h0 ?_) (fun c2 => h1 (rg_in (by omega) (by omega) c c2)))
  · rw [RG_iff (by omega)]; rw [toInt_lt0] at c; omega
  · rw [RG_iff (by omega)]
    rw [Int32.lt_iff_toInt_lt, show (255 : Int32).toInt = 255 from rfl] at c2
    omega
/-! the wire with its acts, on both sides -/
def AI (f sz : Int32) (am ki : Nat → Int32) (go : Nat → Int64) (ac nx : Int32) (di : Nat → Int32) (tk : Int32) (lev now : Nat → Int32) : Prop :=
  ∃ (fN a x : Nat) (S : Nat → Nat → Int32) (T : Nat → Nat), f = nI fN ∧ sz = nI a ∧ ac = nI a ∧ nx = nI x ∧ CW lev tk (S 0) (T 0) ∧ MW now (S 0) (T 0) ∧ CH fN a x S T am ki go di
theorem hear_both {fu : Nat} {x1 x2 f sz ac nx tk : Int32} {am ki di lev now : Nat → Int32} {go : Nat → Int64} {Qc : Int32 → Int32 → Int32 → (Nat → Int32) → (Nat → Int32) → Int32 → (Nat → Int32) → Prop} (hfu : 1000 ≤ fu) (hA : AI f sz am ki go ac nx di tk lev now)
    (h : ∀ r f' sz' am' ki' tk' lev', (∀ K : Int32 → Int32 → Int32 → (Nat → Int32) → (Nat → Int32) → Prop, (∀ ac' nx' di' now', AI f' sz' am' ki' go ac' nx' di' tk' lev' now' → K r ac' nx' di' now') → wp_X10_hear fu x1 x2 ac nx di now K) → Qc r f' sz' am' ki' tk' lev') : wp_X9_hear fu x1 x2 f sz am ki tk lev Qc := by
  obtain ⟨fN, a, x, S, T, rfl, rfl, rfl, rfl, hw, hm, hc⟩ := id hA
  obtain rfl := hw.1
  have ht := hw.2.1
  have bad : ¬ (RG 0 1 x1 ∧ RG 1 99 x2) → Qc (-2) (nI fN) (nI a) am ki (nI (T 0)) lev := by
    intro hn
    refine h _ _ _ _ _ _ _ (fun K hK => ?_)
    unfold wp_X10_hear
    refine inr_ok (lo := 0) (hi := 1) (by omega) rfl rfl (fun g1 => wifn (by decide) ?_) (fun g1 => wifp rfl (hK _ _ _ _ hA))
    refine inr_ok (lo := 1) (hi := 99) (by omega) rfl rfl (fun g2 => absurd ⟨g1, g2⟩ hn) (fun g2 => wifp rfl (hK _ _ _ _ hA))
  unfold wp_X9_hear
  refine isLevel_ok (fun g1 => wifn (by decide) ?_) (fun g1 => wifp rfl (bad (fun g => g1 g.1)))
  by_cases g2 : RG 1 99 x2
  · obtain ⟨n, n1, n2, rfl⟩ := id g2
    refine wifn (by simp (disch := omega) only [lit_nI, nI_ltI]; omega) (wifp (by simp (disch := omega) only [lit_nI, nI_leI]; omega) ?_)
    refine hasPlaceFor_ok ht (by omega) (fun g3 => wifn (by decide) ?_) (fun g3 => wifp rfl ?_)
    · refine extend_ok (by omega) hw g3 (fun lev' hw' => ?_)
      unfold wp_X0_noteGrown
      refine noteC_ok hc.1 hc.2.1 ?_
      refine h _ _ _ _ _ _ _ (fun K hK => ?_)
      unfold wp_X10_hear
      refine inr_ok (lo := 0) (hi := 1) (by omega) rfl rfl (fun _ => wifn (by decide) ?_) (fun g => absurd g1 g)
      refine inr_ok (lo := 1) (hi := 99) (by omega) rfl rfl (fun _ => wifn (by decide) ?_) (fun g => absurd g2 g)
      refine wifp (by rw [show ix (360 : Int32) = 360 from rfl, hm.1, nI_add, show (360 : Int32) = nI 360 from rfl, nI_leI (by omega) (by omega)]; exact g3) ?_
      refine noteM_ok (by omega) hc.2.1 hc.2.2.1 (fun di' hl => ?_)
      refine hearOn_ok (by omega) hm g3 (fun r hr => ?_)
      rw [show ix (360 : Int32) = 360 from rfl, hr.1]
      refine hK _ _ _ _ ⟨_, _, _, pre (xt (S 0) (T 0) x1) S, pre (T 0 + n) T, rfl, rfl, rfl, rfl, hw', hr, CH_push hc hm hl ?_ (Or.inl ⟨rfl, n, by omega, rfl, rfl, fun i hi => ?_⟩) (fun q hq => rfl)⟩
      · refine Bt_xt (hc.2.2.2.1 0 (by omega)) ?_
        obtain ⟨j, j1, j2, e⟩ := g1
        rcases (show j = 0 ∨ j = 1 by omega) with rfl | rfl
        · exact Or.inl e
        · exact Or.inr e
      · rw [xt, if_pos hi]
    · refine h _ _ _ _ _ _ _ (fun K hK => ?_)
      unfold wp_X10_hear
      refine inr_ok (lo := 0) (hi := 1) (by omega) rfl rfl (fun _ => wifn (by decide) ?_) (fun g => absurd g1 g)
      refine inr_ok (lo := 1) (hi := 99) (by omega) rfl rfl (fun _ => wifn (by decide) ?_) (fun g => absurd g2 g)
      refine wifn (by rw [show ix (360 : Int32) = 360 from rfl, hm.1, nI_add, show (360 : Int32) = nI 360 from rfl, nI_leI (by omega) (by omega)]; omega) (hK _ _ _ _ hA)
  · have b := bad (fun g => g2 g.2)
    refine wif (fun _ => b) (fun c => wifn (fun c2 => ?_) b)
    have c3 := rg_lo (by omega) (by omega) g2 c
    exact nlt_le.mpr c2 c3
theorem send_both {fu : Nat} {x1 x2 f sz ac nx tk b1 b2 b3 b4 b5 m1 m2 m3 m4 m5 : Int32} {am ki di lev now : Nat → Int32} {go : Nat → Int64} {Qc : Int32 → Int32 → Int32 → (Nat → Int32) → (Nat → Int32) → Int32 → Int32 → Int32 → Int32 → Int32 → Int32 → (Nat → Int32) → Prop} (hfu : 1000 ≤ fu) (hA : AI f sz am ki go ac nx di tk lev now)
    (h : ∀ r f' sz' am' ki' c1 c2 c3 c4 c5 tk' lev', (∀ K : Int32 → Int32 → Int32 → Int32 → Int32 → Int32 → Int32 → Int32 → (Nat → Int32) → (Nat → Int32) → Prop, (∀ ac' nx' di' now' d1 d2 d3 d4 d5, AI f' sz' am' ki' go ac' nx' di' tk' lev' now' → K r ac' d1 d2 nx' d3 d4 d5 di' now') → wp_X10_send fu x1 x2 ac m1 m2 nx m3 m4 m5 di now K) → Qc r f' sz' am' ki' c1 c2 c3 c4 c5 tk' lev') : wp_X9_send fu x1 x2 f sz am ki b1 b2 b3 b4 b5 tk lev Qc := by
  obtain ⟨fN, a, x, S, T, rfl, rfl, rfl, rfl, hw, hm, hc⟩ := id hA
  obtain rfl := hw.1
  have ht := hw.2.1
  unfold wp_X9_send
  refine isToldBy_ok (fun c hcl ec hck => wifn (by decide) ?_) (fun hn => wifp rfl ?_)
  · have hg := CK_gok hck
    have hnb := nbb_le hg
    subst ec
    refine isLetter_ok (fun g1 => wifn (by decide) ?_) (fun g1 => wifp rfl ?_)
    · refine ticksOfLetter_ok hg (hasPlaceFor_ok ht (by omega) (fun g3 => wifn (by decide) ?_) (fun g3 => wifp rfl ?_))
      · obtain ⟨v, -, v2, rfl⟩ := id g1
        refine extendByLetter_ok (by omega) hw hg (by omega) g3 (fun lev' hw' => ?_)
        unfold wp_X0_noteGrown
        refine noteC_ok hc.1 hc.2.1 ?_
        refine h _ _ _ _ _ _ _ _ _ _ _ _ (fun K hK => ?_)
        unfold wp_X10_send
        refine layCode_ok (fun c' hcl' ec' hck' => wifn (by decide) ?_) (fun hn => absurd ⟨c, hcl, rfl, hck⟩ hn)
        obtain rfl : c = c' := by
          have e := congrArg Int32.toInt ec'
          rw [nI_toInt hcl, nI_toInt hcl'] at e
          omega
        refine inr_ok (lo := 0) (hi := 255) (by omega) rfl rfl (fun _ => wifn (by decide) ?_) (fun g => absurd g1 g)
        refine hasRoom_ok hm hg (fun _ => wifn (by decide) ?_) (fun g => by omega)
        refine noteM_ok (by omega) hc.2.1 hc.2.2.1 (fun di' hl => ?_)
        refine sendOn_ok (by omega) hm hg (by omega) g3 (fun r hr => ?_)
        rw [show ix (360 : Int32) = 360 from rfl, hr.1]
        refine hK _ _ _ _ _ _ _ _ _ ⟨_, _, _, pre (SD (S 0) (T 0) (c / 10000) (c / 1000 % 10) (c / 100 % 10) (c / 10 % 10) (nI (1 - c % 10)) v) S, pre (T 0 + c / 10000 * (1 + nb (c / 1000 % 10) (c / 100 % 10) (c / 10 % 10))) T, rfl, rfl, rfl, rfl, hw', hr, CH_push hc hm hl (Bt_SD (hc.2.2.2.1 0 (by omega)) hg.2.2.2.2.2.2.2) (Or.inl ⟨rfl, _, by omega, rfl, rfl, fun i hi => SD_low hi⟩) (fun q hq => rfl)⟩
      · refine h _ _ _ _ _ _ _ _ _ _ _ _ (fun K hK => ?_)
        unfold wp_X10_send
        refine layCode_ok (fun c' hcl' ec' hck' => wifn (by decide) ?_) (fun hn => absurd ⟨c, hcl, rfl, hck⟩ hn)
        obtain rfl : c = c' := by
          have e := congrArg Int32.toInt ec'
          rw [nI_toInt hcl, nI_toInt hcl'] at e
          omega
        refine inr_ok (lo := 0) (hi := 255) (by omega) rfl rfl (fun _ => wifn (by decide) ?_) (fun g => absurd g1 g)
        refine hasRoom_ok hm hg (fun g => by omega) (fun _ => wifp rfl (hK _ _ _ _ _ _ _ _ _ hA))
    · refine h _ _ _ _ _ _ _ _ _ _ _ _ (fun K hK => ?_)
      unfold wp_X10_send
      refine layCode_ok (fun c' hcl' ec' hck' => wifn (by decide) ?_) (fun hn => absurd ⟨c, hcl, rfl, hck⟩ hn)
      refine inr_ok (lo := 0) (hi := 255) (by omega) rfl rfl (fun g => absurd g g1) (fun g => wifp rfl (hK _ _ _ _ _ _ _ _ _ hA))
  · refine h _ _ _ _ _ _ _ _ _ _ _ _ (fun K hK => ?_)
    unfold wp_X10_send
    exact layCode_ok (fun c' hcl' ec' hck' => absurd ⟨c', hcl', ec', hck'⟩ hn) (fun _ z1 z2 z3 z4 z5 => wifp rfl (hK _ _ _ _ _ _ _ _ _ hA))
theorem flip_both {fu : Nat} {x1 f sz ac nx tk : Int32} {am ki di lev now : Nat → Int32} {go : Nat → Int64} {Qc : Int32 → Int32 → Int32 → (Nat → Int32) → (Nat → Int32) → (Nat → Int32) → Prop} (hfu : 1000 ≤ fu) (hA : AI f sz am ki go ac nx di tk lev now)
    (h : ∀ r f' sz' am' ki' lev', (∀ K : Int32 → Int32 → Int32 → (Nat → Int32) → (Nat → Int32) → Prop, (∀ ac' nx' di' now', AI f' sz' am' ki' go ac' nx' di' tk lev' now' → K r ac' nx' di' now') → wp_X10_flip fu x1 ac nx di now K) → Qc r f' sz' am' ki' lev') : wp_X9_flip fu tk x1 f sz am ki lev Qc := by
  obtain ⟨fN, a, x, S, T, rfl, rfl, rfl, rfl, hw, hm, hc⟩ := id hA
  obtain rfl := hw.1
  have ht := hw.2.1
  unfold wp_X9_flip
  by_cases c : ∃ j, j < T 0 ∧ x1 = nI j
  · obtain ⟨j, hj, rfl⟩ := c
    refine has_ok ht (by omega) (fun _ => wifn (by decide) ?_) (fun g => by omega)
    refine turnOver_ok hw hj (fun lev' hw' => ?_)
    unfold wp_X0_noteFlipped
    refine noteC_ok hc.1 hc.2.1 (levelAt_ok hw' hj ?_)
    refine h _ _ _ _ _ _ (fun K hK => ?_)
    unfold wp_X10_flip
    refine isTick_ok hm (fun _ _ _ => wifn (by decide) ?_) (fun g => ?_)
    · refine noteM_ok (by omega) hc.2.1 hc.2.2.1 (fun di' hl => ?_)
      have hv : vp_in (nI j) 361 := vin (by omega) (by omega)
      refine ⟨hv, hv, hv, ?_⟩
      rw [ix_nI (by omega), upd_s]
      have er : fl (S 0) j j = 1 - now j := by rw [fl, if_pos rfl, hm.2.2 j hj]
      rw [← er]
      refine hK _ _ _ _ ⟨_, _, _, pre (fl (S 0) j) S, pre (T 0) T, rfl, rfl, rfl, rfl, hw', ⟨?_, ht, fun i hi => ?_⟩, CH_push hc hm hl (Bt_fl (hc.2.2.2.1 0 (by omega))) (Or.inr (Or.inl ⟨rfl, j, hj, rfl, rfl, fun i hi => ?_⟩)) (fun q hq => rfl)⟩
      · rw [upd_n (by omega)]; exact hm.1
      · rw [er]
        change upd now j (1 - now j) i = fl (S 0) j i
        change i < T 0 at hi
        rw [upd_ite, fl]
        by_cases e : i = j
        · rw [if_pos e, if_pos e, e, hm.2.2 j hj]
        · rw [if_neg e, if_neg e, hm.2.2 i hi]
      · unfold fl
        by_cases e : i = j
        · rw [if_pos e, if_pos e]
          rcases hc.2.2.2.1 0 (by omega) i hi with e2 | e2 <;> rw [e2] <;> decide
        · rw [if_neg e, if_neg e]
    · rcases g with g | g
      · exact absurd g (nI_pos (by omega))
      · rw [nI_leI (by omega) (by omega)] at g; omega
  · have hno : ∀ Q : Int32 → Prop, Q 0 → wp_X8_has fu (nI (T 0)) x1 Q := by
      intro Q hq
      unfold wp_X8_has
      refine wif (fun _ => hq) (fun c1 => wif (fun _ => hq) (fun c2 => ?_))
      obtain ⟨j, hj, e⟩ := nI_of c1
      rw [e, nI_leI (by omega) hj] at c2
      exact absurd ⟨j, by omega, e⟩ c
    refine hno _ (wifp rfl ?_)
    refine h _ _ _ _ _ _ (fun K hK => ?_)
    unfold wp_X10_flip
    refine isTick_ok hm (fun j hj e => absurd ⟨j, hj, e⟩ c) (fun g => wifp rfl (hK _ _ _ _ hA))
theorem cut_both {fu : Nat} {x1 f sz ac nx tk : Int32} {am ki di lev now : Nat → Int32} {go : Nat → Int64} {Qc : Int32 → Int32 → Int32 → (Nat → Int32) → (Nat → Int64) → (Nat → Int32) → Int32 → Prop} (hfu : 1000 ≤ fu) (hA : AI f sz am ki go ac nx di tk lev now)
    (h : ∀ r f' sz' am' go' ki' tk', (∀ K : Int32 → Int32 → Int32 → (Nat → Int32) → (Nat → Int32) → Prop, (∀ ac' nx' di' now', AI f' sz' am' ki' go' ac' nx' di' tk' lev now' → K r ac' nx' di' now') → wp_X10_cut fu x1 ac nx di now K) → Qc r f' sz' am' go' ki' tk') : wp_X9_cut fu lev x1 f sz am go ki tk Qc := by
  obtain ⟨fN, a, x, S, T, rfl, rfl, rfl, rfl, hw, hm, hc⟩ := id hA
  obtain rfl := hw.1
  have ht := hw.2.1
  have hb := hc.2.2.2.1 0 (by omega)
  have e360 : (Int32.toInt64 (now (ix (360 : Int32)))).toInt = (T 0 : Int) := by rw [show ix (360 : Int32) = 360 from rfl, hm.1, i64_nI (by omega)]
  unfold wp_X9_cut
  by_cases g2 : RG 1 (T 0) x1
  · obtain ⟨n, n1, n2, rfl⟩ := id g2
    refine wifn (by simp (disch := omega) only [lit_nI, nI_ltI]; omega) (wifp (by rw [nI_leI (by omega) (by omega)]; omega) ?_)
    refine noteCut_ok (by omega) hc.1 hc.2.1 hw hb n2 (fun go' hg1 hg2 => ?_)
    refine shorten_ok ht (by omega) ?_
    refine h _ _ _ _ _ _ _ (fun K hK => ?_)
    unfold wp_X10_cut
    refine inr_ok (lo := 1) (hi := T 0) (by omega) rfl e360 (fun _ => wifn (by decide) ?_) (fun g => absurd g2 g)
    refine noteM_ok (by omega) hc.2.1 hc.2.2.1 (fun di' hl => ?_)
    refine cutOn_ok (by omega) hm n2 (fun r hr => ?_)
    rw [show ix (360 : Int32) = 360 from rfl, hr.1]
    have hw2 : CW lev (nI (T 0 - n)) (S 0) (T 0 - n) := ⟨rfl, by omega, fun i hi => hw.2.2 i (by omega)⟩
    refine hK _ _ _ _ ⟨_, _, _, pre (S 0) S, pre (T 0 - n) T, rfl, rfl, rfl, rfl, hw2, hr, CH_push hc hm hl (fun i hi => hb i (by omega)) (Or.inr (Or.inr ⟨rfl, n, by omega, rfl, by omega, fun i hi => rfl, fun i hi => (hg1 i hi).symm⟩)) hg2⟩
  · have b : Qc (-2) (nI fN) (nI a) am go ki (nI (T 0)) := by
      refine h _ _ _ _ _ _ _ (fun K hK => ?_)
      unfold wp_X10_cut
      exact inr_ok (lo := 1) (hi := T 0) (by omega) rfl e360 (fun g => absurd g g2) (fun _ => wifp rfl (hK _ _ _ _ hA))
    refine wif (fun _ => b) (fun c => wifn (fun c2 => ?_) b)
    have c3 := rg_lo (by omega) (by omega) g2 c
    exact nlt_le.mpr c2 c3
theorem undo_both {fu : Nat} {f sz ac nx tk : Int32} {am ki di lev now : Nat → Int32} {go : Nat → Int64} {Qc : Int32 → Int32 → Int32 → (Nat → Int32) → Prop} (hfu : 1000 ≤ fu) (hA : AI f sz am ki go ac nx di tk lev now)
    (h : ∀ r sz' tk' lev', (∀ K : Int32 → Int32 → Int32 → (Nat → Int32) → Prop, (∀ ac' nx' now', AI f sz' am ki go ac' nx' di tk' lev' now' → K r ac' nx' now') → wp_X10_undo fu di ac nx now K) → Qc r sz' tk' lev') : wp_X9_undo fu f am go ki sz tk lev Qc := by
  obtain ⟨fN, a, x, S, T, rfl, rfl, rfl, rfl, hw, hm, hc⟩ := id hA
  obtain rfl := hw.1
  have ha := hc.2.1
  unfold wp_X9_undo
  cases a with
  | zero =>
    refine wifp rfl (h _ _ _ _ (fun K hK => ?_))
    unfold wp_X10_undo
    exact wifp rfl (hK _ _ _ hA)
  | succ a =>
    refine wifn (by simp (disch := omega) only [lit_nI, nI_eq]; omega) ?_
    refine takeBack_ok (by omega) hc hw (fun lev' hw' => ?_)
    refine h _ _ _ _ (fun K hK => ?_)
    refine undoM_ok (by omega) (by omega) hc.2.2.1 (fun r hr => ?_)
    have g := (hc.2.2.2.2 0 (by omega)).1
    rw [show (x + 13 - 0) % 14 = (x + 13) % 14 by omega] at g
    exact hK _ _ _ ⟨_, _, _, fun i => S (i + 1), fun i => T (i + 1), rfl, rfl, rfl, rfl, hw', MW_eq g hr, CH_pop hc⟩
/-! slots -/
def SL (u k tk : Int32) (lev row : Nat → Int32) : Prop := u = k ∧ (u = 0 ∨ ∃ L t, CW lev tk L t ∧ MW row L t ∧ Bt L t)
def SI (us : Nat → Int32) (t0 : Int32) (l0 : Nat → Int32) (t1 : Int32) (l1 : Nat → Int32) (ik kp : Nat → Int32) : Prop := SL (us 0) (ik 0) t0 l0 (fun k => kp (361 * 0 + k)) ∧ SL (us 1) (ik 1) t1 l1 (fun k => kp (361 * 1 + k))
theorem hasS_ok {fu : Nat} {x : Int32} {Q : Int32 → Prop} (h1 : RG 0 1 x → Q 1) (h0 : ¬ RG 0 1 x → Q 0) : wp_X6_has fu x Q := by
  unfold wp_X6_has
  refine wif (fun c => h0 ?_) (fun c => wif (fun c2 => h0 ?_) (fun c2 => h1 ?_))
  · rw [RG_iff (by omega)]; rw [toInt_lt0] at c; omega
  · rw [RG_iff (by omega)]
    rw [Int32.le_iff_toInt_le, show (2 : Int32).toInt = 2 from rfl] at c2
    omega
  · rw [RG_iff (by omega)]
    rw [toInt_lt0] at c
    rw [Int32.le_iff_toInt_le, show (2 : Int32).toInt = 2 from rfl] at c2
    omega
theorem SL_row {u k tk : Int32} {lev row row' : Nat → Int32} (h : SL u k tk lev row) (e : ∀ i, i < 361 → row' i = row i) : SL u k tk lev row' := by
  refine ⟨h.1, ?_⟩
  rcases h.2 with g | ⟨L, t, g1, g2, g3⟩
  · exact Or.inl g
  · exact Or.inr ⟨L, t, g1, MW_eq g2 e, g3⟩
theorem keep_both {fu : Nat} {x1 f sz ac nx tk t0 t1 : Int32} {am ki di lev now us l0 l1 ik kp : Nat → Int32} {go : Nat → Int64} {Qc : Int32 → (Nat → Int32) → Int32 → (Nat → Int32) → Int32 → (Nat → Int32) → Prop} (hfu : 1000 ≤ fu) (hA : AI f sz am ki go ac nx di tk lev now) (hS : SI us t0 l0 t1 l1 ik kp)
    (h : ∀ r us' t0' l0' t1' l1', (∀ K : Int32 → (Nat → Int32) → (Nat → Int32) → Prop, (∀ ik' kp', SI us' t0' l0' t1' l1' ik' kp' → K r ik' kp') → wp_X10_keep fu now x1 ik kp K) → Qc r us' t0' l0' t1' l1') : wp_X9_keep fu tk lev x1 us t0 l0 t1 l1 Qc := by
  obtain ⟨fN, a, x, S, T, rfl, rfl, rfl, rfl, hw, hm, hc⟩ := id hA
  obtain rfl := hw.1
  have hb := hc.2.2.2.1 0 (by omega)
  unfold wp_X9_keep
  refine hasS_ok (fun g1 => wifn (by decide) ?_) (fun g1 => wifp rfl ?_)
  · unfold wp_X6_store
    refine hasS_ok (fun _ => wifn (by decide) ?_) (fun g => absurd g1 g)
    obtain ⟨v, -, v2, rfl⟩ := id g1
    have key : ∀ us' t0' l0' t1' l1', (∀ kp', Laid kp' kp now (361 * v) → SI us' t0' l0' t1' l1' (upd ik v 1) kp') → Qc (nI (T 0)) us' t0' l0' t1' l1' := by
      intro us' t0' l0' t1' l1' hS'
      refine h _ _ _ _ _ _ (fun K hK => ?_)
      unfold wp_X10_keep
      refine inr_ok (lo := 0) (hi := 1) (by omega) rfl rfl (fun _ => wifn (by decide) ⟨vin (by omega) (by omega), ?_⟩) (fun g => absurd g1 g)
      refine keepM_lp (by omega) 361 fu 0 _ (by omega) (by omega) (fun i hi => by omega) (fun q hq => rfl) (fun d' hl => ?_)
      rw [hm.1, ix_nI (by omega)]
      exact hK _ _ (hS' d' hl)
    rcases (show v = 0 ∨ v = 1 by omega) with rfl | rfl
    · refine Or.inl ⟨rfl, copy_ok hw (fun lev' hw' => key _ _ _ _ _ (fun kp' hl => ⟨?_, ?_⟩))⟩
      · rw [show ix (0 : Int32) = 0 from rfl, upd_s, upd_s]
        exact ⟨rfl, Or.inr ⟨_, _, hw', MW_eq hm (fun i hi => hl.1 i hi), hb⟩⟩
      · rw [show ix (0 : Int32) = 0 from rfl, upd_n (by omega), upd_n (by omega)]
        exact SL_row hS.2 (fun i hi => hl.2 _ (by omega))
    · refine Or.inr ⟨rfl, copy_ok hw (fun lev' hw' => key _ _ _ _ _ (fun kp' hl => ⟨?_, ?_⟩))⟩
      · rw [show ix (1 : Int32) = 1 from rfl, upd_n (by omega), upd_n (by omega)]
        exact SL_row hS.1 (fun i hi => hl.2 _ (by omega))
      · rw [show ix (1 : Int32) = 1 from rfl, upd_s, upd_s]
        exact ⟨rfl, Or.inr ⟨_, _, hw', MW_eq hm (fun i hi => hl.1 i hi), hb⟩⟩
  · refine h _ _ _ _ _ _ (fun K hK => ?_)
    unfold wp_X10_keep
    exact inr_ok (lo := 0) (hi := 1) (by omega) rfl rfl (fun g => absurd g g1) (fun _ => wifp rfl (hK _ _ hS))
theorem again_both {fu : Nat} {x1 f sz ac nx tk t0 t1 : Int32} {am ki di lev now us l0 l1 ik kp : Nat → Int32} {go : Nat → Int64} {Qc : Int32 → Int32 → Int32 → (Nat → Int32) → Prop} (hfu : 1000 ≤ fu) (hA : AI f sz am ki go ac nx di tk lev now) (hS : SI us t0 l0 t1 l1 ik kp)
    (h : ∀ r sz' tk' lev', (∀ K : Int32 → Int32 → (Nat → Int32) → Prop, (∀ ac' now', AI f sz' am ki go ac' nx di tk' lev' now' → K r ac' now') → wp_X10_again fu ik kp x1 ac now K) → Qc r sz' tk' lev') : wp_X9_again fu us t0 l0 t1 l1 x1 sz tk lev Qc := by
  obtain ⟨fN, a, x, S, T, rfl, rfl, rfl, rfl, hw, hm, hc⟩ := id hA
  obtain rfl := hw.1
  unfold wp_X9_again
  refine hasS_ok (fun g1 => wifn (by decide) ?_) (fun g1 => wifp rfl ?_)
  · obtain ⟨v, -, v2, rfl⟩ := id g1
    have hv : vp_in (nI v) 2 := vin (by omega) (by omega)
    have used : ∀ Q : Int32 → Prop, (us v = 0 → Q 0) → (us v ≠ 0 → Q 1) → wp_X6_isUsed fu us (nI v) Q := by
      intro Q q0 q1
      unfold wp_X6_isUsed
      refine hasS_ok (fun _ => wifn (by decide) ⟨hv, ?_⟩) (fun g => absurd g1 g)
      rw [ix_nI (by omega)]
      exact wif q0 q1
    have eu : us v = ik v := by
      rcases (show v = 0 ∨ v = 1 by omega) with rfl | rfl
      · exact hS.1.1
      · exact hS.2.1
    refine used _ (fun g2 => wifp rfl ?_) (fun g2 => wifn (by decide) ?_)
    · refine h _ _ _ _ (fun K hK => ?_)
      unfold wp_X10_again
      refine inr_ok (lo := 0) (hi := 1) (by omega) rfl rfl (fun _ => wifn (by decide) ⟨hv, ?_⟩) (fun g => absurd g1 g)
      rw [ix_nI (by omega)]
      exact wifp (by rw [← eu]; exact g2) (hK _ _ hA)
    · unfold wp_X6_restore
      refine used _ (fun g => absurd g g2) (fun _ => wifn (by decide) ?_)
      have key : ∀ (L : Nat → Int32) (t : Nat) (lev' : Nat → Int32), CW lev' (nI t) L t → MW (fun k => kp (361 * v + k)) L t → Bt L t → Qc (nI t) 0 (nI t) lev' := by
        intro L t lev' hw' hm' hb'
        refine h _ _ _ _ (fun K hK => ?_)
        unfold wp_X10_again
        refine inr_ok (lo := 0) (hi := 1) (by omega) rfl rfl (fun _ => wifn (by decide) ⟨hv, ?_⟩) (fun g => absurd g1 g)
        refine wifn (by rw [ix_nI (by omega), ← eu]; exact g2) ?_
        refine againM_lp (by omega) 361 fu 0 _ (by omega) (by omega) (fun i hi => by omega) (fun r hr => ?_)
        have hm2 : MW r L t := MW_eq hm' hr
        rw [hm2.1]
        exact hK _ _ ⟨fN, 0, x, fun _ => L, fun _ => t, rfl, rfl, rfl, rfl, hw', hm2, CH_none hc.1 hc.2.2.1 hb'⟩
      rcases (show v = 0 ∨ v = 1 by omega) with rfl | rfl
      · refine Or.inl ⟨rfl, ?_⟩
        rcases hS.1.2 with g | ⟨L, t, k1, k2, k3⟩
        · exact absurd g g2
        · obtain rfl := k1.1
          exact copy_ok k1 (fun lev' hw' => key L t lev' hw' k2 k3)
      · refine Or.inr ⟨rfl, ?_⟩
        rcases hS.2.2 with g | ⟨L, t, k1, k2, k3⟩
        · exact absurd g g2
        · obtain rfl := k1.1
          exact copy_ok k1 (fun lev' hw' => key L t lev' hw' k2 k3)
  · refine h _ _ _ _ (fun K hK => ?_)
    unfold wp_X10_again
    exact inr_ok (lo := 0) (hi := 1) (by omega) rfl rfl (fun g => absurd g g1) (fun _ => wifp rfl (hK _ _ hA))
