/-! runs: how many ticks of its run lie ahead of a tick (bk), behind it (AH); how many runs there are (rc) -/
def bk (L : Nat → Int32) : Nat → Nat
  | 0 => 0
  | j + 1 => if L (j + 1) = L j then bk L j + 1 else 0
def ah (L : Nat → Int32) (t : Nat) : Nat → Nat → Nat
  | 0, _ => 0
  | f + 1, j => if j + 1 < t ∧ L (j + 1) = L j then ah L t f (j + 1) + 1 else 0
def AH (L : Nat → Int32) (t j : Nat) : Nat := ah L t (t - j) j
def rc (L : Nat → Int32) : Nat → Nat
  | 0 => 0
  | k + 1 => rc L k + (if k = 0 ∨ L k ≠ L (k - 1) then 1 else 0)
def dep (L : Nat → Int32) (t j : Nat) : Nat := if AH L t j ≤ bk L j then AH L t j else bk L j
theorem AH_eq {L : Nat → Int32} {t j : Nat} (h : j < t) : AH L t j = if j + 1 < t ∧ L (j + 1) = L j then AH L t (j + 1) + 1 else 0 := by
  unfold AH
  have e : t - j = (t - (j + 1)) + 1 := by omega
  rw [e, ah]
theorem bk_le (L : Nat → Int32) : ∀ j, bk L j ≤ j := by
  intro j
  induction j with
  | zero => exact Nat.le_refl _
  | succ j ih =>
    rw [bk]
    split <;> omega
theorem AH_all {L : Nat → Int32} {t : Nat} : ∀ (n j : Nat), t - j = n → j < t → (j + AH L t j < t) ∧ (∀ k, k ≤ AH L t j → L (j + k) = L j) ∧ (j + AH L t j + 1 < t → L (j + AH L t j + 1) ≠ L j) := by
  intro n
  induction n with
  | zero => intro j hn hj; omega
  | succ n ih =>
    intro j hn hj
    rw [AH_eq hj]
    by_cases c : j + 1 < t ∧ L (j + 1) = L j
    · rw [if_pos c]
      obtain ⟨a1, a2, a3⟩ := ih (j + 1) (by omega) c.1
      refine ⟨by omega, fun k hk => ?_, fun h => ?_⟩
      · cases k with
        | zero => rfl
        | succ k =>
          have := a2 k (by omega)
          rw [show j + (k + 1) = j + 1 + k by omega, this, c.2]
      · have := a3 (by omega)
        rw [show j + (AH L t (j + 1) + 1) + 1 = j + 1 + AH L t (j + 1) + 1 by omega, ← c.2]
        exact this
    · rw [if_neg c]
      refine ⟨by omega, fun k hk => ?_, fun h => ?_⟩
      · rw [show k = 0 by omega]; rfl
      · intro h2
        exact c ⟨by omega, h2⟩
theorem AH_lt {L : Nat → Int32} {t j : Nat} (h : j < t) : j + AH L t j < t := (AH_all _ j rfl h).1
theorem AH_same {L : Nat → Int32} {t j k : Nat} (h : j < t) (hk : k ≤ AH L t j) : L (j + k) = L j := (AH_all _ j rfl h).2.1 k hk
theorem AH_next {L : Nat → Int32} {t j : Nat} (h : j < t) (hk : j + AH L t j + 1 < t) : L (j + AH L t j + 1) ≠ L j := (AH_all _ j rfl h).2.2 hk
theorem dep_lt {L : Nat → Int32} {t j : Nat} (h : j < t) : dep L t j < t := by
  have h1 := AH_lt (L := L) h
  have h2 := bk_le L j
  unfold dep
  split <;> omega
theorem rc_le (L : Nat → Int32) : ∀ k, rc L k ≤ k := by
  intro k
  induction k with
  | zero => exact Nat.le_refl _
  | succ k ih =>
    rw [rc]
    split <;> omega
/-- what the class's Runs hold of a wire -/
def RunsOK (L : Nat → Int32) (t : Nat) (fi la : Nat → Int32) : Prop := ∀ i, i < t → fi i = nI (i - bk L i) ∧ la i = nI (i + AH L t i)
theorem isEdge_ok {fu t j : Nat} {lev L : Nat → Int32} {Q : Int32 → Prop} (hw : CW lev (nI t) L t) (h0 : 0 < j) (hj : j < t) (h1 : L j ≠ L (j - 1) → Q 1) (h2 : L j = L (j - 1) → Q 0) : wp_X8_isEdge fu (nI t) lev (nI j) Q := by
  obtain ⟨-, ht, hl⟩ := hw
  unfold wp_X8_isEdge
  refine wifn (nI_nle h0 (by omega)) (wifn (by rw [nI_leI (by omega) (by omega)]; omega) ⟨vin (by omega) (by omega), ?_⟩)
  rw [show (1 : Int32) = nI 1 from rfl, nI_sub (by omega)]
  refine ⟨vin (by omega) (by omega), ?_⟩
  rw [ix_nI (by omega), ix_nI (by omega), hl j hj, hl (j - 1) (by omega)]
  exact wif h2 h1
theorem m1_sub (x : Int32) : x + (-1 : Int32) = x - 1 := by rw [Int32.sub_eq_add_neg]
theorem neg1_lt : nI 0 - (1 : Int32) < 0 := by decide
theorem mark_l2 {fu t : Nat} {lev L fi : Nat → Int32} {Q : Int32 → Int32 → (Nat → Int32) → (Nat → Int32) → Prop} {rr : Int32} (ht : t ≤ 360) (hfi : ∀ i, i < t → fi i = nI (i - bk L i)) : ∀ (k fuel : Nat) (x3 : Int32) (la : Nat → Int32), k < fuel → k ≤ t → (∀ j, k = j + 1 → x3 = nI (j + AH L t j)) → (∀ i, k ≤ i → i < t → la i = nI (i + AH L t i)) → (∀ la', RunsOK L t fi la' → Q rr (nI t) fi la') → wX5_mark_79 fu (nI t) lev Q fuel x3 (nI k - 1) rr (nI t) fi la := by
  intro k
  induction k with
  | zero =>
    intro fuel x3 la hf hk h3 hla h
    obtain ⟨f, rfl⟩ : ∃ f, fuel = f + 1 := ⟨fuel - 1, by omega⟩
    unfold wX5_mark_79
    exact wifp neg1_lt (h la (fun i hi => ⟨hfi i hi, hla i (by omega) hi⟩))
  | succ j ih =>
    intro fuel x3 la hf hk h3 hla h
    obtain ⟨f, rfl⟩ : ∃ f, fuel = f + 1 := ⟨fuel - 1, by omega⟩
    have e3 := h3 j rfl
    rw [show nI (j + 1) - 1 = nI j from nI_pred j]
    unfold wX5_mark_79
    refine wifn (nI_pos (by omega)) (wifn (by simp (disch := omega) only [lit_nI, nI_leI]; omega) ⟨vin (by omega) (by omega), vin (by omega) (by omega), ?_⟩)
    rw [ix_nI (by omega), hfi j (by omega)]
    have hb := bk_le L j
    have hla' : ∀ i, j ≤ i → i < t → upd la j x3 i = nI (i + AH L t i) := by
      intro i hi1 hi2
      rw [upd_ite]
      by_cases c : i = j
      · rw [if_pos c, e3, c]
      · rw [if_neg c]; exact hla i (by omega) hi2
    refine wif (fun c => ?_) (fun c => ?_)
    · intro y hy
      unfold wX5_mark_117
      rw [m1_sub]
      refine ih f y _ (by omega) (by omega) (fun i hi => ?_) hla' h
      subst hi
      rw [nI_eq (by omega) (by omega)] at c
      have hne : ¬ L (i + 1) = L i := by
        intro h4
        rw [bk, if_pos h4] at c
        have := bk_le L i
        omega
      rw [hy, AH_eq (show i < t by omega), if_neg (fun h5 => hne h5.2)]
      exact nI_pred i
    · unfold wX5_mark_117
      rw [m1_sub]
      refine ih f x3 _ (by omega) (by omega) (fun i hi => ?_) hla' h
      subst hi
      rw [nI_eq (by omega) (by omega)] at c
      have heq : L (i + 1) = L i := by
        by_cases h4 : L (i + 1) = L i
        · exact h4
        · exfalso
          rw [bk, if_neg h4] at c
          omega
      rw [e3, AH_eq (show i < t by omega), if_pos ⟨by omega, heq⟩]
      congr 1
      omega
theorem mark_l1 {fu t : Nat} {lev L : Nat → Int32} {Q : Int32 → Int32 → (Nat → Int32) → (Nat → Int32) → Prop} (hfu : 400 ≤ fu) (hw : CW lev (nI t) L t) : ∀ (n fuel k : Nat) (x2 : Int32) (fi la : Nat → Int32), k + n = t → n < fuel → (∀ j, k = j + 1 → x2 = nI (j - bk L j)) → (∀ i, i < k → fi i = nI (i - bk L i)) → (∀ fi' la', RunsOK L t fi' la' → Q (nI (rc L t)) (nI t) fi' la') → wX5_mark_17 fu (nI t) lev Q fuel x2 (nI k) (nI (rc L k)) (nI t) fi la := by
  have ht := hw.2.1
  intro n
  induction n with
  | zero =>
    intro fuel k x2 fi la hk hf hx hfi h
    obtain ⟨f, rfl⟩ : ∃ f, fuel = f + 1 := ⟨fuel - 1, by omega⟩
    have e : k = t := by omega
    subst e
    unfold wX5_mark_17
    refine wifp (nI_le (by omega) (by omega)) ?_
    unfold wX5_mark_69
    intro y hy
    rw [hy]
    refine mark_l2 ht hfi k fu _ la (by omega) (by omega) (fun j hj => ?_) (fun i h1 h2 => by omega) (h fi)
    subst hj
    rw [show nI (j + 1) - 1 = nI j from nI_pred j, AH_eq (by omega), if_neg (by omega)]
    rfl
  | succ n ih =>
    intro fuel k x2 fi la hk hf hx hfi h
    obtain ⟨f, rfl⟩ : ∃ f, fuel = f + 1 := ⟨fuel - 1, by omega⟩
    have hr := rc_le L k
    unfold wX5_mark_17
    refine wifn (by rw [nI_leI (by omega) (by omega)]; omega) (wifn (by simp (disch := omega) only [lit_nI, nI_leI]; omega) ?_)
    have step : ∀ y : Int32, y = nI (k - bk L k) → ∀ i, i < k + 1 → upd fi k y i = nI (i - bk L i) := by
      intro y hy i hi
      rw [upd_ite]
      by_cases c : i = k
      · rw [if_pos c, hy, c]
      · rw [if_neg c]; exact hfi i (by omega)
    refine wif (fun c => ?_) (fun c => ?_)
    · have c0 : k = 0 := by
        have : nI k = nI 0 := c
        rwa [nI_eq (by omega) (by omega)] at this
      unfold wX5_mark_44 wX5_mark_56
      refine ⟨vin (by omega) (by omega), ?_⟩
      rw [ix_nI (by omega), show (1 : Int32) = nI 1 from rfl, nI_add, nI_add]
      have e1 : rc L k + 1 = rc L (k + 1) := by rw [rc, if_pos (Or.inl c0)]
      rw [e1]
      have e2 : nI k = nI (k - bk L k) := by rw [c0]; rfl
      exact ih f (k + 1) (nI k) _ la (by omega) (by omega) (fun j hj => by rw [show j = k by omega]; exact e2) (step _ e2) h
    · have c0 : k ≠ 0 := fun h0 => c (by rw [h0]; rfl)
      refine isEdge_ok hw (by omega) (by omega) (fun hne => ?_) (fun heq => ?_)
      · refine wifn (by decide) ?_
        unfold wX5_mark_44 wX5_mark_56
        refine ⟨vin (by omega) (by omega), ?_⟩
        rw [ix_nI (by omega), show (1 : Int32) = nI 1 from rfl, nI_add, nI_add]
        have e1 : rc L k + 1 = rc L (k + 1) := by rw [rc, if_pos (Or.inr hne)]
        rw [e1]
        have e2 : nI k = nI (k - bk L k) := by
          obtain ⟨j, rfl⟩ : ∃ j, k = j + 1 := ⟨k - 1, by omega⟩
          rw [bk, if_neg (show ¬ L (j + 1) = L j from hne)]
          rfl
        exact ih f (k + 1) (nI k) _ la (by omega) (by omega) (fun j hj => by rw [show j = k by omega]; exact e2) (step _ e2) h
      · refine wifp (by decide) ?_
        unfold wX5_mark_56
        refine ⟨vin (by omega) (by omega), ?_⟩
        rw [ix_nI (by omega), show (1 : Int32) = nI 1 from rfl, nI_add]
        have e1 : rc L k = rc L (k + 1) := by rw [rc, if_neg (by intro hh; rcases hh with hh | hh; exact c0 hh; exact hh heq)]; rfl
        rw [e1]
        have e2 : x2 = nI (k - bk L k) := by
          obtain ⟨j, rfl⟩ : ∃ j, k = j + 1 := ⟨k - 1, by omega⟩
          rw [hx j rfl, bk, if_pos (show L (j + 1) = L j from heq)]
          congr 1
          omega
        exact ih f (k + 1) x2 _ la (by omega) (by omega) (fun j hj => by rw [show j = k by omega]; exact e2) (step _ e2) h
theorem mark_ok {fu t : Nat} {lev L f0 l0 : Nat → Int32} {r0 t0 : Int32} {Q : Int32 → Int32 → (Nat → Int32) → (Nat → Int32) → Prop} (hfu : 400 ≤ fu) (hw : CW lev (nI t) L t) (h : ∀ fi la, RunsOK L t fi la → Q (nI (rc L t)) (nI t) fi la) : wp_X5_mark fu (nI t) lev r0 t0 f0 l0 Q :=
  mark_l1 hfu hw t fu 0 0 f0 l0 (by omega) (by have := hw.2.1; omega) (fun j hj => by omega) (fun i hi => by omega) h
theorem listenTo_ok {fu t : Nat} {lev L f0 l0 : Nat → Int32} {r0 t0 : Int32} {Q : Int32 → Int32 → (Nat → Int32) → (Nat → Int32) → Prop} (hfu : 400 ≤ fu) (hw : CW lev (nI t) L t) (h : ∀ fi la, RunsOK L t fi la → Q (nI (rc L t)) (nI t) fi la) : wp_X4_listenTo fu (nI t) lev r0 t0 f0 l0 Q := by
  unfold wp_X4_listenTo
  exact mark_ok hfu hw h
theorem inset_ok {fu t j : Nat} {L fi la : Nat → Int32} {Q : Int32 → Prop} (ht : t ≤ 360) (hr : RunsOK L t fi la) (hj : j < t) (h : Q (nI (dep L t j))) : wp_X5_inset fu (nI t) fi la (nI j) Q := by
  obtain ⟨h1, h2⟩ := hr j hj
  have hb := bk_le L j
  have ha := AH_lt (L := L) hj
  unfold wp_X5_inset
  refine wifn (nI_pos (by omega)) (wifp (nI_lt (by omega) (by omega)) ⟨vin (by omega) (by omega), fun y hy => ⟨vin (by omega) (by omega), fun z hz => ?_⟩⟩)
  rw [ix_nI (by omega), h1, nI_sub (by omega)] at hy
  rw [ix_nI (by omega), h2, nI_sub (by omega)] at hz
  have e1 : j - (j - bk L j) = bk L j := by omega
  have e2 : j + AH L t j - j = AH L t j := by omega
  rw [hy, hz, e1, e2]
  unfold dep at h
  refine wif (fun c => ?_) (fun c => ?_) <;> rw [nI_leI (by omega) (by omega)] at c
  · rwa [if_pos c] at h
  · rwa [if_neg c] at h
theorem nextEdge_ok {fu t j : Nat} {L fi la : Nat → Int32} {Q : Int32 → Prop} (ht : t ≤ 360) (hr : RunsOK L t fi la) (hj : j < t) (h1 : j + AH L t j + 1 < t → Q (nI (j + AH L t j + 1))) (h2 : ¬ j + AH L t j + 1 < t → Q (-9)) : wp_X5_nextEdge fu (nI t) la (nI j) Q := by
  have ha := AH_lt (L := L) hj
  unfold wp_X5_nextEdge
  refine wifn (nI_pos (by omega)) (wifn (by rw [nI_leI (by omega) (by omega)]; omega) ⟨vin (by omega) (by omega), ?_⟩)
  unfold wX5_nextEdge_27
  rw [ix_nI (by omega), (hr j hj).2, show (1 : Int32) = nI 1 from rfl, nI_add]
  refine wif (fun c => ?_) (fun c => ?_) <;> rw [nI_leI (by omega) (by omega)] at c
  · exact h2 (by omega)
  · exact h1 (by omega)
theorem nextEdge_out {fu t : Nat} {la : Nat → Int32} {x : Int32} {Q : Int32 → Prop} (hx : x < 0 ∨ nI t ≤ x) (h : Q (-9)) : wp_X5_nextEdge fu (nI t) la x Q := by
  unfold wp_X5_nextEdge
  have k : wX5_nextEdge_23 fu (nI t) la x Q := by
    unfold wX5_nextEdge_23 wX5_nextEdge_27
    exact wifp (by rw [Int32.le_iff_toInt_le]; omega) h
  rcases hx with hx | hx
  · exact wifp hx k
  · exact wif (fun _ => k) (fun _ => wifp hx k)
/-- a start: a ZERO behind a ONE -/
def St (L : Nat → Int32) (t : Nat) (idle : Int32) (i : Nat) : Prop := 1 ≤ i ∧ i < t ∧ L i ≠ idle ∧ L (i - 1) = idle
theorem bit_ne {x y z : Int32} (hx : x = 0 ∨ x = 1) (hy : y = 0 ∨ y = 1) (hz : z = 0 ∨ z = 1) (h1 : x ≠ y) (h2 : x ≠ z) : y = z := by
  rcases hx with rfl | rfl <;> rcases hy with rfl | rfl <;> rcases hz with rfl | rfl <;> first | rfl | (exact absurd rfl h1) | (exact absurd rfl h2)
theorem nextStart_ok {fu t on : Nat} {lev L fi la : Nat → Int32} {idle : Int32} {Q : Int32 → Prop} (hw : CW lev (nI t) L t) (hb : Bt L t) (hi : idle = 0 ∨ idle = 1) (hr : RunsOK L t fi la) (hon : on < t) (h1 : ∀ st, on < st → St L t idle st → (∀ i, on < i → i < st → ¬ St L t idle i) → Q (nI st)) (h2 : (∀ i, on < i → ¬ St L t idle i) → Q (-9)) : wp_X4_nextStart fu (nI t) lev (nI t) la (nI on) idle Q := by
  have ht := hw.2.1
  unfold wp_X4_nextStart
  have flat : ∀ j, j < t → ∀ i, j < i → i ≤ j + AH L t j → ¬ St L t idle i := by
    intro j hj i hi1 hi2 hst
    have a1 := AH_same (L := L) hj (k := i - j) (by omega)
    have a2 := AH_same (L := L) hj (k := i - 1 - j) (by omega)
    rw [show j + (i - j) = i by omega] at a1
    rw [show j + (i - 1 - j) = i - 1 by omega] at a2
    exact hst.2.2.1 (by rw [a1, ← a2]; exact hst.2.2.2)
  refine nextEdge_ok ht hr hon (fun he => ?_) (fun he => ?_)
  · have hl := AH_lt (L := L) hon
    refine levelAt_ok hw he ?_
    have hne := AH_next hon he
    have hsame := AH_same (L := L) hon (Nat.le_refl (AH L t on))
    refine wif (fun c => ?_) (fun c => ?_)
    · -- the edge is idle: the next one is the start
      have nst : ¬ St L t idle (on + AH L t on + 1) := fun hs => hs.2.2.1 c
      refine nextEdge_ok ht hr he (fun he2 => ?_) (fun he2 => ?_)
      · have hne2 := AH_next he he2
        have hs2 := AH_same (L := L) he (Nat.le_refl (AH L t (on + AH L t on + 1)))
        refine h1 _ (by omega) ⟨by omega, he2, fun h => hne2 (by rw [h, c]), by rw [Nat.add_sub_cancel, hs2, c]⟩ (fun i hi1 hi2 => ?_)
        rcases Nat.lt_or_ge i (on + AH L t on + 1) with hlt | hge
        · exact flat on hon i hi1 (by omega)
        · rcases Nat.eq_or_lt_of_le hge with heq | hgt
          · rw [← heq]; exact nst
          · exact flat _ he i hgt (by omega)
      · refine h2 (fun i hi1 hst => ?_)
        have hit := hst.2.1
        rcases Nat.lt_or_ge i (on + AH L t on + 1) with hlt | hge
        · exact flat on hon i hi1 (by omega) hst
        · rcases Nat.eq_or_lt_of_le hge with heq | hgt
          · rw [← heq] at hst; exact nst hst
          · exact flat _ he i hgt (by omega) hst
    · refine h1 _ (by omega) ⟨by omega, he, c, ?_⟩ (fun i hi1 hi2 => flat on hon i hi1 (by omega))
      rw [Nat.add_sub_cancel, hsame]
      exact bit_ne (hb _ he) (hb on hon) hi hne c
  · unfold wp_X8_levelAt
    refine wifp (by decide) ?_
    refine wifn (by rcases hi with e | e <;> rw [e] <;> decide) ?_
    refine h2 (fun i hi1 hst => ?_)
    exact flat on hon i hi1 (by have := hst.2.1; omega) hst
