/-! the reference's rows: copies, hearing, cutting, the diary -/
theorem MW_eq {r r' L : Nat → Int32} {t : Nat} (h : MW r L t) (e : ∀ i, i < 361 → r' i = r i) : MW r' L t := by
  obtain ⟨h1, h2, h3⟩ := h
  exact ⟨by rw [e 360 (by omega)]; exact h1, h2, fun i hi => by rw [e i (by omega)]; exact h3 i hi⟩
theorem copyM_lp {fu : Nat} {a0 : Nat → Int32} {Q : (Nat → Int32) → Prop} : ∀ (j fuel k : Nat) (a1 : Nat → Int32), k + j = 361 → j < fuel → (∀ i, i < k → a1 i = a0 i) → (∀ r, (∀ i, i < 361 → r i = a0 i) → Q r) → wX10_copy_2 fu a0 Q fuel (nI k) a1 := by
  intro j
  induction j with
  | zero =>
    intro fuel k a1 hk hf ha h
    obtain ⟨f, rfl⟩ : ∃ f, fuel = f + 1 := ⟨fuel - 1, by omega⟩
    unfold wX10_copy_2
    refine wifp (by simp (disch := omega) only [lit_nI, nI_leI]; omega) (h _ (fun i hi => ha i (by omega)))
  | succ j ih =>
    intro fuel k a1 hk hf ha h
    obtain ⟨f, rfl⟩ : ∃ f, fuel = f + 1 := ⟨fuel - 1, by omega⟩
    unfold wX10_copy_2
    refine wifn (by simp (disch := omega) only [lit_nI, nI_leI]; omega) ⟨vin (by omega) (by omega), vin (by omega) (by omega), ?_⟩
    simp (disch := omega) only [lit_nI, nI_add, ix_nI]
    refine ih f (k + 1) _ (by omega) (by omega) (fun i hi => ?_) h
    rw [upd_ite]
    by_cases c : i = k
    · rw [if_pos c, c]
    · rw [if_neg c]; exact ha i (by omega)
theorem copyM_ok {fu : Nat} {a0 a1 : Nat → Int32} {Q : (Nat → Int32) → Prop} (hf : 400 ≤ fu) (h : ∀ r, (∀ i, i < 361 → r i = a0 i) → Q r) : wp_X10_copy fu a0 a1 Q :=
  copyM_lp 361 fu 0 a1 (by omega) (by omega) (fun i hi => by omega) h
theorem hearOn_lp {fu n : Nat} {x1 : Int32} {Q : (Nat → Int32) → Prop} (hn : n ≤ 1000) : ∀ (j fuel k t : Nat) (row L : Nat → Int32), k + j = n → j < fuel → t + j ≤ 360 → MW row L t → (∀ r, MW r (xt L t x1) (t + j) → Q r) → wX10_hearOn_2 fu x1 (nI n) Q fuel (nI k) row := by
  intro j
  induction j with
  | zero =>
    intro fuel k t row L hk hf ht hw h
    obtain ⟨f, rfl⟩ : ∃ f, fuel = f + 1 := ⟨fuel - 1, by omega⟩
    unfold wX10_hearOn_2
    refine wifp (by rw [nI_leI (by omega) (by omega)]; omega) (h _ ⟨hw.1, ht, fun i hi => ?_⟩)
    rw [xt, if_pos (by omega)]
    exact hw.2.2 i (by omega)
  | succ j ih =>
    intro fuel k t row L hk hf ht hw h
    obtain ⟨f, rfl⟩ : ∃ f, fuel = f + 1 := ⟨fuel - 1, by omega⟩
    unfold wX10_hearOn_2
    refine wifn (by rw [nI_leI (by omega) (by omega)]; omega) ?_
    rw [show ix (360 : Int32) = 360 from rfl, hw.1]
    refine ⟨vin (by omega) (by omega), ?_⟩
    simp (disch := omega) only [lit_nI, nI_add, ix_nI]
    rw [upd_n (show 360 ≠ t by omega), hw.1, nI_add]
    refine ih f (k + 1) (t + 1) _ (xt L t x1) (by omega) (by omega) (by omega) ⟨upd_s, by omega, fun i hi => ?_⟩ (fun r hr => ?_)
    · rw [upd_n (by omega), upd_ite, xt]
      by_cases c : i = t
      · rw [if_pos c, if_neg (by omega)]
      · rw [if_neg c, if_pos (by omega)]; exact hw.2.2 i (by omega)
    · have e : t + 1 + j = t + (j + 1) := by omega
      rw [e] at hr
      refine h r ⟨hr.1, ht, fun i hi => ?_⟩
      rw [hr.2.2 i hi]
      unfold xt
      by_cases c : i < t
      · rw [if_pos (by omega), if_pos c]
      · by_cases c2 : i < t + 1
        · rw [if_pos c2]
        · rw [if_neg c2, if_neg c]
theorem hearOn_ok {fu n t : Nat} {x1 : Int32} {row L : Nat → Int32} {Q : (Nat → Int32) → Prop} (hf : 400 ≤ fu) (hw : MW row L t) (ht : t + n ≤ 360) (h : ∀ r, MW r (xt L t x1) (t + n) → Q r) : wp_X10_hearOn fu x1 (nI n) row Q :=
  hearOn_lp (by omega) n fu 0 t row L (by omega) (by omega) ht hw h
theorem cutOn_lp {fu n : Nat} {Q : (Nat → Int32) → Prop} (hn : n ≤ 1000) : ∀ (j fuel k t : Nat) (row L : Nat → Int32), k + j = n → j < fuel → j ≤ t → MW row L t → (∀ r, MW r L (t - j) → Q r) → wX10_cutOn_2 fu (nI n) Q fuel (nI k) row := by
  intro j
  induction j with
  | zero =>
    intro fuel k t row L hk hf ht hw h
    obtain ⟨f, rfl⟩ : ∃ f, fuel = f + 1 := ⟨fuel - 1, by omega⟩
    unfold wX10_cutOn_2
    exact wifp (by rw [nI_leI (by omega) (by omega)]; omega) (h _ hw)
  | succ j ih =>
    intro fuel k t row L hk hf ht hw h
    obtain ⟨f, rfl⟩ : ∃ f, fuel = f + 1 := ⟨fuel - 1, by omega⟩
    have htt := hw.2.1
    unfold wX10_cutOn_2
    refine wifn (by rw [nI_leI (by omega) (by omega)]; omega) ?_
    rw [show ix (360 : Int32) = 360 from rfl, hw.1, show (1 : Int32) = nI 1 from rfl, nI_sub (by omega), upd_s]
    refine ⟨vin (by omega) (by omega), ?_⟩
    rw [nI_add, ix_nI (by omega)]
    refine ih f (k + 1) (t - 1) _ L (by omega) (by omega) (by omega) ⟨?_, by omega, fun i hi => ?_⟩ (fun r hr => h r ?_)
    · rw [upd_n (by omega), upd_s]
    · rw [upd_n (by omega), upd_n (by omega)]; exact hw.2.2 i (by omega)
    · have e : t - 1 - j = t - (j + 1) := by omega
      rw [e] at hr
      exact hr
theorem cutOn_ok {fu n t : Nat} {row L : Nat → Int32} {Q : (Nat → Int32) → Prop} (hf : 400 ≤ fu) (hw : MW row L t) (ht : n ≤ t) (h : ∀ r, MW r L (t - n) → Q r) : wp_X10_cutOn fu (nI n) row Q :=
  cutOn_lp (by have := hw.2.1; omega) n fu 0 t row L (by omega) (by have := hw.2.1; omega) ht hw h
/-- a row of 361 laid at a place of a longer one -/
def Laid (d' d now : Nat → Int32) (o : Nat) : Prop := (∀ k, k < 361 → d' (o + k) = now k) ∧ ∀ q, (q < o ∨ o + 361 ≤ q) → d' q = d q
theorem noteM_lp {fu a x : Nat} {now d0 : Nat → Int32} {Q : Int32 → Int32 → (Nat → Int32) → Prop} (ha : a ≤ 14) (hx : x < 14) : ∀ (j fuel k : Nat) (d : Nat → Int32), k + j = 361 → j < fuel → (∀ i, i < k → d (361 * x + i) = now i) → (∀ q, (q < 361 * x ∨ 361 * x + 361 ≤ q) → d q = d0 q) → (∀ d', Laid d' d0 now (361 * x) → Q (nI (if a < 14 then a + 1 else 14)) (nI ((x + 1) % 14)) d') → wX10_note_2 fu now Q fuel (nI k) (nI a) (nI x) d := by
  intro j
  induction j with
  | zero =>
    intro fuel k d hk hf h1 h2 h
    obtain ⟨f, rfl⟩ : ∃ f, fuel = f + 1 := ⟨fuel - 1, by omega⟩
    unfold wX10_note_2
    simp (disch := omega) only [lit_nI, nI_leI, nI_add, irm_nI]
    have hl : Laid d d0 now (361 * x) := ⟨fun i hi => h1 i (by omega), h2⟩
    refine wifp (by omega) (wif (fun c => ?_) (fun c => ?_))
    · unfold wX10_note_70
      have h3 := h d hl
      rwa [if_neg (by omega)] at h3
    · unfold wX10_note_70
      have h3 := h d hl
      rwa [if_pos (by omega)] at h3
  | succ j ih =>
    intro fuel k d hk hf h1 h2 h
    obtain ⟨f, rfl⟩ : ∃ f, fuel = f + 1 := ⟨fuel - 1, by omega⟩
    unfold wX10_note_2
    refine wifn (by simp (disch := omega) only [lit_nI, nI_leI]; omega) ⟨vin (by omega) (by omega), ?_⟩
    rw [show (361 : Int32) = nI 361 from rfl, nI_mul, nI_add]
    refine ⟨vin (by omega) (by omega), ?_⟩
    rw [show (1 : Int32) = nI 1 from rfl, nI_add, ix_nI (by omega), ix_nI (by omega)]
    refine ih f (k + 1) _ (by omega) (by omega) (fun i hi => ?_) (fun q hq => ?_) h
    · rw [upd_ite]
      by_cases c : i = k
      · rw [if_pos (by omega), c]
      · rw [if_neg (by omega)]; exact h1 i (by omega)
    · rw [upd_n (by omega)]; exact h2 q hq
theorem noteM_ok {fu a x : Nat} {now d0 : Nat → Int32} {Q : Int32 → Int32 → (Nat → Int32) → Prop} (hf : 400 ≤ fu) (ha : a ≤ 14) (hx : x < 14) (h : ∀ d', Laid d' d0 now (361 * x) → Q (nI (if a < 14 then a + 1 else 14)) (nI ((x + 1) % 14)) d') : wp_X10_note fu now (nI a) (nI x) d0 Q :=
  noteM_lp ha hx 361 fu 0 d0 (by omega) (by omega) (fun i hi => by omega) (fun q hq => rfl) h
theorem undoM_lp {fu a x : Nat} {d : Nat → Int32} {Q : Int32 → Int32 → Int32 → (Nat → Int32) → Prop} (hx : x < 14) : ∀ (j fuel k : Nat) (now : Nat → Int32), k + j = 361 → j < fuel → (∀ i, i < k → now i = d (361 * x + i)) → (∀ r, (∀ i, i < 361 → r i = d (361 * x + i)) → Q (nI a) (nI a) (nI x) r) → wX10_undo_38 fu d Q fuel (nI k) (nI a) (nI x) now := by
  intro j
  induction j with
  | zero =>
    intro fuel k now hk hf h1 h
    obtain ⟨f, rfl⟩ : ∃ f, fuel = f + 1 := ⟨fuel - 1, by omega⟩
    unfold wX10_undo_38
    exact wifp (by simp (disch := omega) only [lit_nI, nI_leI]; omega) (h _ (fun i hi => h1 i (by omega)))
  | succ j ih =>
    intro fuel k now hk hf h1 h
    obtain ⟨f, rfl⟩ : ∃ f, fuel = f + 1 := ⟨fuel - 1, by omega⟩
    unfold wX10_undo_38
    refine wifn (by simp (disch := omega) only [lit_nI, nI_leI]; omega) ?_
    rw [show (361 : Int32) = nI 361 from rfl, nI_mul, nI_add]
    refine ⟨vin (by omega) (by omega), vin (by omega) (by omega), ?_⟩
    rw [show (1 : Int32) = nI 1 from rfl, nI_add, ix_nI (by omega), ix_nI (by omega)]
    refine ih f (k + 1) _ (by omega) (by omega) (fun i hi => ?_) h
    rw [upd_ite]
    by_cases c : i = k
    · rw [if_pos c, c]
    · rw [if_neg c]; exact h1 i (by omega)
theorem undoM_ok {fu a x : Nat} {d now : Nat → Int32} {Q : Int32 → Int32 → Int32 → (Nat → Int32) → Prop} (hf : 400 ≤ fu) (ha : a < 14) (hx : x < 14) (h : ∀ r, (∀ i, i < 361 → r i = d (361 * ((x + 13) % 14) + i)) → Q (nI a) (nI a) (nI ((x + 13) % 14)) r) : wp_X10_undo fu d (nI (a + 1)) (nI x) now Q := by
  unfold wp_X10_undo
  simp (disch := omega) only [lit_nI, nI_eq, nI_add, nI_sub, irm_nI]
  refine wifn (by omega) ?_
  have e : x + 14 - 1 = x + 13 := by omega
  have e2 : a + 1 - 1 = a := by omega
  rw [e, e2]
  exact undoM_lp (by omega) 361 fu 0 now (by omega) (by omega) (fun i hi => by omega) h
theorem keepM_lp {fu v : Nat} {now k0 used : Nat → Int32} {Q : Int32 → (Nat → Int32) → (Nat → Int32) → Prop} (hv : v < 2) : ∀ (j fuel k : Nat) (d : Nat → Int32), k + j = 361 → j < fuel → (∀ i, i < k → d (361 * v + i) = now i) → (∀ q, (q < 361 * v ∨ 361 * v + 361 ≤ q) → d q = k0 q) → (∀ d', Laid d' k0 now (361 * v) → Q (now 360) used d') → wX10_keep_21 fu now (nI v) Q fuel (nI k) used d := by
  intro j
  induction j with
  | zero =>
    intro fuel k d hk hf h1 h2 h
    obtain ⟨f, rfl⟩ : ∃ f, fuel = f + 1 := ⟨fuel - 1, by omega⟩
    unfold wX10_keep_21
    exact wifp (by simp (disch := omega) only [lit_nI, nI_leI]; omega) (h d ⟨fun i hi => h1 i (by omega), h2⟩)
  | succ j ih =>
    intro fuel k d hk hf h1 h2 h
    obtain ⟨f, rfl⟩ : ∃ f, fuel = f + 1 := ⟨fuel - 1, by omega⟩
    unfold wX10_keep_21
    refine wifn (by simp (disch := omega) only [lit_nI, nI_leI]; omega) ⟨vin (by omega) (by omega), ?_⟩
    rw [show (361 : Int32) = nI 361 from rfl, nI_mul, nI_add]
    refine ⟨vin (by omega) (by omega), ?_⟩
    rw [show (1 : Int32) = nI 1 from rfl, nI_add, ix_nI (by omega), ix_nI (by omega)]
    refine ih f (k + 1) _ (by omega) (by omega) (fun i hi => ?_) (fun q hq => ?_) h
    · rw [upd_ite]
      by_cases c : i = k
      · rw [if_pos (by omega), c]
      · rw [if_neg (by omega)]; exact h1 i (by omega)
    · rw [upd_n (by omega)]; exact h2 q hq
theorem againM_lp {fu v : Nat} {used kept : Nat → Int32} {a : Int32} {Q : Int32 → Int32 → (Nat → Int32) → Prop} (hv : v < 2) : ∀ (j fuel k : Nat) (now : Nat → Int32), k + j = 361 → j < fuel → (∀ i, i < k → now i = kept (361 * v + i)) → (∀ r, (∀ i, i < 361 → r i = kept (361 * v + i)) → Q (r 360) 0 r) → wX10_again_26 fu used kept (nI v) Q fuel (nI k) a now := by
  intro j
  induction j with
  | zero =>
    intro fuel k now hk hf h1 h
    obtain ⟨f, rfl⟩ : ∃ f, fuel = f + 1 := ⟨fuel - 1, by omega⟩
    unfold wX10_again_26
    exact wifp (by simp (disch := omega) only [lit_nI, nI_leI]; omega) (h now (fun i hi => h1 i (by omega)))
  | succ j ih =>
    intro fuel k now hk hf h1 h
    obtain ⟨f, rfl⟩ : ∃ f, fuel = f + 1 := ⟨fuel - 1, by omega⟩
    unfold wX10_again_26
    refine wifn (by simp (disch := omega) only [lit_nI, nI_leI]; omega) ?_
    rw [show (361 : Int32) = nI 361 from rfl, nI_mul, nI_add]
    refine ⟨vin (by omega) (by omega), vin (by omega) (by omega), ?_⟩
    rw [show (1 : Int32) = nI 1 from rfl, nI_add, ix_nI (by omega), ix_nI (by omega)]
    refine ih f (k + 1) _ (by omega) (by omega) (fun i hi => ?_) h
    rw [upd_ite]
    by_cases c : i = k
    · rw [if_pos c, c]
    · rw [if_neg c]; exact h1 i (by omega)
