/-! runs one by one: where the i-th begins, how long it is; widths -/
def ps (L : Nat → Int32) (t : Nat) : Nat → Nat
  | 0 => 0
  | i + 1 => ps L t i + AH L t (ps L t i) + 1
def lnc (L : Nat → Int32) (i : Nat) : Nat → Nat
  | 0 => 0
  | k + 1 => lnc L i k + (if rc L (k + 1) = i + 1 then 1 else 0)
theorem rc_mono {L : Nat → Int32} : ∀ (n a : Nat), rc L a ≤ rc L (a + n) := by
  intro n
  induction n with
  | zero => intro a; exact Nat.le_refl _
  | succ n ih =>
    intro a
    have h := ih a
    rw [show a + (n + 1) = (a + n) + 1 by omega, rc]
    omega
theorem rc_pos {L : Nat → Int32} {k : Nat} (h : 0 < k) : 0 < rc L k := by
  have h1 : rc L 1 = 1 := by rw [rc, rc, if_pos (Or.inl rfl)]
  have := rc_mono (L := L) (k - 1) 1
  rw [show 1 + (k - 1) = k by omega, h1] at this
  omega
/-- within a run no other begins -/
theorem rc_flat {L : Nat → Int32} {t j : Nat} (hj : j < t) : ∀ m, m ≤ AH L t j → rc L (j + m + 1) = rc L (j + 1) := by
  intro m
  induction m with
  | zero => intro _; rfl
  | succ m ih =>
    intro h
    have h1 := AH_same (L := L) hj h
    have h2 := AH_same (L := L) hj (k := m) (by omega)
    rw [show j + (m + 1) + 1 = (j + m + 1) + 1 by omega, rc, if_neg, ih (by omega)]
    · rfl
    · intro hh
      rcases hh with hh | hh
      · omega
      · apply hh
        rw [show j + m + 1 = j + (m + 1) by omega, h1, show j + (m + 1) - 1 = j + m by omega, h2]
theorem ps_all {L : Nat → Int32} {t : Nat} : ∀ i, i < rc L t → ps L t i < t ∧ rc L (ps L t i + 1) = i + 1 ∧ (∀ j, j < ps L t i → rc L (j + 1) ≤ i) := by
  intro i
  induction i with
  | zero =>
    intro h
    have ht : 0 < t := by
      rcases Nat.eq_zero_or_pos t with e | e
      · rw [e] at h; exact absurd h (Nat.not_lt_zero _)
      · exact e
    exact ⟨ht, by rw [ps, rc, rc, if_pos (Or.inl rfl)], fun j hj => absurd hj (Nat.not_lt_zero _)⟩
  | succ i ih =>
    intro h
    obtain ⟨a1, a2, a3⟩ := ih (by omega)
    have hl := AH_lt (L := L) a1
    have hfl := rc_flat (L := L) a1 (AH L t (ps L t i)) (Nat.le_refl _)
    have hin : ps L t i + AH L t (ps L t i) + 1 < t := by
      rcases Nat.lt_or_ge (ps L t i + AH L t (ps L t i) + 1) t with c | c
      · exact c
      · have e : ps L t i + AH L t (ps L t i) + 1 = t := by omega
        rw [e] at hfl
        omega
    have hne := AH_next a1 hin
    have hsame := AH_same (L := L) a1 (Nat.le_refl (AH L t (ps L t i)))
    refine ⟨hin, ?_, fun j hj => ?_⟩
    · rw [ps, rc, if_pos (Or.inr ?_), hfl, a2]
      rw [Nat.add_sub_cancel, hsame]
      exact hne
    · rw [ps] at hj
      rcases Nat.lt_or_ge j (ps L t i) with c | c
      · have := a3 j c; omega
      · have := rc_flat (L := L) a1 (j - ps L t i) (by omega)
        rw [show ps L t i + (j - ps L t i) + 1 = j + 1 by omega] at this
        omega
theorem lnc_val {L : Nat → Int32} {t i : Nat} (hi : i < rc L t) : ∀ k, k ≤ t → lnc L i k = if k ≤ ps L t i then 0 else if k ≤ ps L t i + AH L t (ps L t i) + 1 then k - ps L t i else AH L t (ps L t i) + 1 := by
  obtain ⟨a1, a2, a3⟩ := ps_all i hi
  have hl := AH_lt (L := L) a1
  intro k
  induction k with
  | zero => intro _; rw [if_pos (Nat.zero_le _)]; rfl
  | succ k ih =>
    intro h
    rw [lnc, ih (by omega)]
    by_cases c1 : k < ps L t i
    · have := a3 k c1
      rw [if_pos (show k ≤ ps L t i by omega), if_pos (show k + 1 ≤ ps L t i by omega), if_neg (show ¬ rc L (k + 1) = i + 1 by omega)]
    · by_cases c2 : k ≤ ps L t i + AH L t (ps L t i)
      · have := rc_flat (L := L) a1 (k - ps L t i) (by omega)
        rw [show ps L t i + (k - ps L t i) + 1 = k + 1 by omega] at this
        rw [if_pos (show rc L (k + 1) = i + 1 by omega), if_neg (show ¬ k + 1 ≤ ps L t i by omega), if_pos (show k + 1 ≤ ps L t i + AH L t (ps L t i) + 1 by omega)]
        by_cases c3 : k ≤ ps L t i
        · rw [if_pos c3]; omega
        · rw [if_neg c3, if_pos (by omega)]; omega
      · have h2 : rc L (k + 1) ≠ i + 1 := by
          have hin : ps L t i + AH L t (ps L t i) + 1 < t := by omega
          have hne := AH_next a1 hin
          have hsame := AH_same (L := L) a1 (Nat.le_refl (AH L t (ps L t i)))
          have hfl := rc_flat (L := L) a1 (AH L t (ps L t i)) (Nat.le_refl _)
          have e : rc L (ps L t i + AH L t (ps L t i) + 1 + 1) = i + 2 := by
            rw [rc, if_pos (Or.inr ?_), hfl, a2]
            rw [Nat.add_sub_cancel, hsame]
            exact hne
          have := rc_mono (L := L) (k - (ps L t i + AH L t (ps L t i) + 1)) (ps L t i + AH L t (ps L t i) + 1 + 1)
          rw [show ps L t i + AH L t (ps L t i) + 1 + 1 + (k - (ps L t i + AH L t (ps L t i) + 1)) = k + 1 by omega] at this
          omega
        rw [if_neg h2, if_neg (show ¬ k + 1 ≤ ps L t i by omega), if_neg (show ¬ k + 1 ≤ ps L t i + AH L t (ps L t i) + 1 by omega), if_neg (show ¬ k ≤ ps L t i by omega)]
        by_cases c3 : k ≤ ps L t i + AH L t (ps L t i) + 1
        · rw [if_pos c3]; omega
        · rw [if_neg c3]
theorem ln_eq {L : Nat → Int32} {t i : Nat} (hi : i < rc L t) : lnc L i t = AH L t (ps L t i) + 1 := by
  obtain ⟨a1, -, -⟩ := ps_all i hi
  have hl := AH_lt (L := L) a1
  rw [lnc_val hi t (Nat.le_refl _), if_neg (by omega)]
  by_cases c : t ≤ ps L t i + AH L t (ps L t i) + 1
  · rw [if_pos c]; omega
  · rw [if_neg c]
theorem lnc_none {L : Nat → Int32} {t i : Nat} (hi : rc L t ≤ i) : ∀ k, k ≤ t → lnc L i k = 0 := by
  intro k
  induction k with
  | zero => intro _; rfl
  | succ k ih =>
    intro h
    have := rc_mono (L := L) (t - (k + 1)) (k + 1)
    rw [show k + 1 + (t - (k + 1)) = t by omega] at this
    rw [lnc, ih (by omega), if_neg (by omega)]
theorem lnc_le {L : Nat → Int32} {i : Nat} : ∀ k, lnc L i k ≤ k := by
  intro k
  induction k with
  | zero => exact Nat.le_refl _
  | succ k ih =>
    rw [lnc]
    split <;> omega
/-! edges -/
theorem edgesC_ok {fu r : Nat} {Q : Int32 → Prop} (hr : r ≤ 360) (h : Q (nI (r - 1))) : wp_X5_edges fu (nI r) Q := by
  unfold wp_X5_edges imx
  by_cases c : r = 0
  · subst c
    exact h
  · rw [show (1 : Int32) = nI 1 from rfl, nI_sub (by omega)]
    by_cases c2 : r - 1 = 0
    · rw [c2] at h ⊢
      exact h
    · rw [if_pos (show (0 : Int32) < nI (r - 1) from (show nI 0 < nI (r - 1) from nI_lt (by omega) (by omega)))]
      exact h
theorem edgesM_lp {fu t : Nat} {row L : Nat → Int32} {Q : Int32 → Prop} (hw : MW row L t) (h : Q (nI (rc L t - 1))) : ∀ (n fuel k : Nat), k + n = t → n < fuel → 1 ≤ k → wX10_edges_4 fu row Q fuel (nI (rc L k - 1)) (nI k) := by
  have ht := hw.2.1
  intro n
  induction n with
  | zero =>
    intro fuel k hk hf h1
    obtain ⟨f, rfl⟩ : ∃ f, fuel = f + 1 := ⟨fuel - 1, by omega⟩
    have e : k = t := by omega
    subst e
    unfold wX10_edges_4
    rw [show ix (360 : Int32) = 360 from rfl, hw.1]
    exact wifp (nI_le (by omega) (by omega)) h
  | succ n ih =>
    intro fuel k hk hf h1
    obtain ⟨f, rfl⟩ : ∃ f, fuel = f + 1 := ⟨fuel - 1, by omega⟩
    have hp := rc_pos (L := L) (show 0 < k by omega)
    unfold wX10_edges_4
    rw [show ix (360 : Int32) = 360 from rfl, hw.1]
    refine wifn (by rw [nI_leI (by omega) (by omega)]; omega) ⟨vin (by omega) (by omega), ?_⟩
    rw [show nI k - (1 : Int32) = nI (k - 1) from by rw [show (1 : Int32) = nI 1 from rfl, nI_sub (by omega)]]
    refine ⟨vin (by omega) (by omega), ?_⟩
    rw [ix_nI (by omega), ix_nI (by omega), hw.2.2 k (by omega), hw.2.2 (k - 1) (by omega)]
    refine wif (fun c => ?_) (fun c => ?_)
    · unfold wX10_edges_30
      intro y hy
      have e : rc L (k + 1) = rc L k := by rw [rc, if_neg (by intro hh; rcases hh with hh | hh; omega; exact hh c)]; rfl
      rw [hy, show (0 : Int32) = nI 0 from rfl, nI_add, show nI k + (1 : Int32) = nI (k + 1) from by rw [show (1 : Int32) = nI 1 from rfl, nI_add], show rc L k - 1 + 0 = rc L (k + 1) - 1 by omega]
      exact ih f (k + 1) (by omega) (by omega) (by omega)
    · unfold wX10_edges_30
      intro y hy
      have e : rc L (k + 1) = rc L k + 1 := by rw [rc, if_pos (Or.inr c)]
      rw [hy, show (1 : Int32) = nI 1 from rfl, nI_add, nI_add, show rc L k - 1 + 1 = rc L (k + 1) - 1 by omega]
      exact ih f (k + 1) (by omega) (by omega) (by omega)
theorem edgesM_ok {fu t : Nat} {row L : Nat → Int32} {Q : Int32 → Prop} (hfu : 400 ≤ fu) (hw : MW row L t) (h : Q (nI (rc L t - 1))) : wp_X10_edges fu row Q := by
  have ht := hw.2.1
  unfold wp_X10_edges
  by_cases c : t = 0
  · obtain ⟨f, rfl⟩ : ∃ f, fu = f + 1 := ⟨fu - 1, by omega⟩
    unfold wX10_edges_4
    rw [show ix (360 : Int32) = 360 from rfl, hw.1, c]
    rw [c] at h
    exact wifp (by decide) h
  · have h1 : rc L 1 - 1 = 0 := by rw [rc, rc, if_pos (Or.inl rfl)]
    have := edgesM_lp (fu := fu) hw h (t - 1) fu 1 (by omega) (by omega) (by omega)
    rw [h1] at this
    exact this
/-! the i-th run -/
theorem lengthFrom_ok {fu t j : Nat} {L fi la : Nat → Int32} {Q : Int32 → Prop} (ht : t ≤ 360) (hr : RunsOK L t fi la) (hj : j < t) (h : Q (nI (AH L t j + 1))) : wp_X5_lengthFrom fu (nI t) la (nI j) Q := by
  unfold wp_X5_lengthFrom
  refine wifn (nI_pos (by omega)) (wifn (by rw [nI_leI (by omega) (by omega)]; omega) ⟨vin (by omega) (by omega), ?_⟩)
  rw [ix_nI (by omega), (hr j hj).2, nI_sub (by omega), show (1 : Int32) = nI 1 from rfl, nI_add, show j + AH L t j - j = AH L t j by omega]
  exact h
theorem ticksOfRun_lp {fu t i : Nat} {L fi la : Nat → Int32} {rr : Int32} {Q : Int32 → Prop} (ht : t ≤ 360) (hr : RunsOK L t fi la) (hi : i < rc L t) (h : Q (nI (lnc L i t))) : ∀ (n fuel k : Nat), k + n = i → n < fuel → wX5_ticksOfRun_19 fu rr (nI t) la (nI i) Q fuel (nI (ps L t k)) (nI k) := by
  have hrc := rc_le L t
  intro n
  induction n with
  | zero =>
    intro fuel k hk hf
    obtain ⟨f, rfl⟩ : ∃ f, fuel = f + 1 := ⟨fuel - 1, by omega⟩
    have e : k = i := by omega
    subst e
    unfold wX5_ticksOfRun_19
    refine wifp (nI_le (by omega) (by omega)) (lengthFrom_ok ht hr (ps_all k hi).1 ?_)
    rw [← ln_eq hi]
    exact h
  | succ n ih =>
    intro fuel k hk hf
    obtain ⟨f, rfl⟩ : ∃ f, fuel = f + 1 := ⟨fuel - 1, by omega⟩
    unfold wX5_ticksOfRun_19
    refine wifn (by rw [nI_leI (by omega) (by omega)]; omega) ?_
    have hn := (ps_all (L := L) (t := t) (k + 1) (by omega)).1
    rw [ps] at hn
    refine nextEdge_ok ht hr (ps_all (L := L) (t := t) k (by omega)).1 (fun _ => ?_) (fun hh => absurd hn hh)
    rw [show (1 : Int32) = nI 1 from rfl, nI_add]
    exact ih f (k + 1) (by omega) (by omega)
theorem ticksOfRun_ok {fu t : Nat} {L fi la : Nat → Int32} {x : Int32} {Q : Int32 → Prop} (hfu : 400 ≤ fu) (ht : t ≤ 360) (hr : RunsOK L t fi la) (h1 : ∀ i, i < rc L t → x = nI i → Q (nI (lnc L i t))) (h0 : (x < 0 ∨ nI (rc L t) ≤ x) → Q (-9)) : wp_X5_ticksOfRun fu (nI (rc L t)) (nI t) la x Q := by
  have hrc := rc_le L t
  unfold wp_X5_ticksOfRun
  refine wif (fun c => h0 (Or.inl c)) (fun c => ?_)
  obtain ⟨i, hi, rfl⟩ := nI_of c
  refine wif (fun c2 => ?_) (fun c2 => ?_) <;> rw [nI_ltI hi (by omega)] at c2
  · exact ticksOfRun_lp ht hr c2 (h1 i c2 rfl) i fu 0 (by omega) (by omega)
  · exact h0 (Or.inr (nI_le (by omega) hi))
theorem runOf_lp {fu t i : Nat} {row L : Nat → Int32} {Q : Int32 → Prop} (hi : i < 2 ^ 31) (hw : MW row L t) (h : Q (nI (lnc L i t))) : ∀ (n fuel k : Nat) (x2 : Int32), k + n = t → n < fuel → x2 = nI (rc L k - 1) → wX10_runOf_7 fu row (nI i) Q fuel x2 (nI (lnc L i k)) (nI k) := by
  have ht := hw.2.1
  intro n
  induction n with
  | zero =>
    intro fuel k x2 hk hf hx
    obtain ⟨f, rfl⟩ : ∃ f, fuel = f + 1 := ⟨fuel - 1, by omega⟩
    have e : k = t := by omega
    subst e
    unfold wX10_runOf_7
    rw [show ix (360 : Int32) = 360 from rfl, hw.1]
    exact wifp (nI_le (by omega) (by omega)) h
  | succ n ih =>
    intro fuel k x2 hk hf hx
    obtain ⟨f, rfl⟩ : ∃ f, fuel = f + 1 := ⟨fuel - 1, by omega⟩
    have hrc := rc_le L (k + 1)
    have hrk := rc_le L k
    have hp := rc_pos (L := L) (show 0 < k + 1 by omega)
    unfold wX10_runOf_7
    rw [show ix (360 : Int32) = 360 from rfl, hw.1]
    refine wifn (by rw [nI_leI (by omega) (by omega)]; omega) ?_
    have fin : ∀ k0 k1 : Int32, k0 + k1 = nI (rc L (k + 1) - 1) → wX10_runOf_50 fu row (nI i) Q (wX10_runOf_7 fu row (nI i) Q f) (nI (lnc L i k)) (nI k) k0 k1 := by
      intro k0 k1 he
      unfold wX10_runOf_50
      intro y hy
      rw [he] at hy
      rw [hy]
      refine wif (fun c => ?_) (fun c => ?_) <;> rw [nI_eq (by omega) hi] at c
      · unfold wX10_runOf_63
        intro z hz
        rw [hz, show (1 : Int32) = nI 1 from rfl, nI_add, nI_add]
        have e : lnc L i k + 1 = lnc L i (k + 1) := by rw [lnc, if_pos (by omega)]
        rw [e]
        exact ih f (k + 1) _ (by omega) (by omega) rfl
      · unfold wX10_runOf_63
        intro z hz
        rw [hz, show (1 : Int32) = nI 1 from rfl, show (0 : Int32) = nI 0 from rfl, nI_add, nI_add]
        have e : lnc L i k + 0 = lnc L i (k + 1) := by rw [lnc, if_neg (by omega)]
        rw [e]
        exact ih f (k + 1) _ (by omega) (by omega) rfl
    refine wif (fun c => ?_) (fun c => ?_)
    · have c' : k = 0 := by
        have : nI k ≤ nI 0 := c
        rw [nI_leI (by omega) (by omega)] at this
        omega
      unfold wX10_runOf_49
      refine fin _ _ ?_
      rw [hx, show (0 : Int32) = nI 0 from rfl, nI_add]
      have e1 : rc L (0 + 1) = 1 := by rw [rc, rc, if_pos (Or.inl rfl)]
      subst c'
      rw [e1]
      rfl
    · have c' : k ≠ 0 := fun h0 => c (by rw [h0]; decide)
      have hpk := rc_pos (L := L) (show 0 < k by omega)
      rw [show nI k - (1 : Int32) = nI (k - 1) from by rw [show (1 : Int32) = nI 1 from rfl, nI_sub (by omega)]]
      refine ⟨vin (by omega) (by omega), vin (by omega) (by omega), ?_⟩
      rw [ix_nI (by omega), ix_nI (by omega), hw.2.2 k (by omega), hw.2.2 (k - 1) (by omega)]
      refine wif (fun c2 => ?_) (fun c2 => ?_)
      · unfold wX10_runOf_49
        refine fin _ _ ?_
        have e : rc L (k + 1) = rc L k := by rw [rc, if_neg (by intro hh; rcases hh with hh | hh; omega; exact hh c2)]; rfl
        rw [hx, show (0 : Int32) = nI 0 from rfl, nI_add, e]
        rfl
      · refine fin _ _ ?_
        have e : rc L (k + 1) = rc L k + 1 := by rw [rc, if_pos (Or.inr c2)]
        rw [hx, show (1 : Int32) = nI 1 from rfl, nI_add, e]
        congr 1
        omega
theorem runOf_ok {fu t i : Nat} {row L : Nat → Int32} {Q : Int32 → Prop} (hfu : 400 ≤ fu) (hi : i < 2 ^ 31) (hw : MW row L t) (h : Q (nI (lnc L i t))) : wp_X10_runOf fu row (nI i) Q :=
  runOf_lp hi hw h t fu 0 0 (by omega) (by have := hw.2.1; omega) rfl
/-! how far runs are off multiples -/
def ofr (l b : Nat) : Nat := if l < b then b - l else if b - l % b < l % b then b - l % b else l % b
theorem offOfRun_ok {fu l b : Nat} {Q : Int32 → Prop} (hl : l ≤ 360) (hb1 : 1 ≤ b) (hb : b ≤ 16) (h : Q (nI (ofr l b))) : wp_X5_offOfRun fu (nI l) (nI b) Q := by
  have hm : l % b < b := Nat.mod_lt _ hb1
  unfold wp_X5_offOfRun
  unfold ofr at h
  refine wif (fun c => ?_) (fun c => ?_) <;> rw [nI_ltI (by omega) (by omega)] at c
  · rw [if_pos c] at h
    rw [nI_sub (by omega)]
    exact h
  · rw [if_neg c] at h
    refine wifp (show nI 1 ≤ nI b from nI_le hb1 (by omega)) ⟨nI_ne0 hb1 (by omega), fun y hy => ?_⟩
    rw [irm_nI (by omega) (by omega) (by omega)] at hy
    rw [hy, nI_sub (by omega), imn_nI (by omega) (by omega)]
    exact h
theorem offOf_ok {fu l b : Nat} {Q : Int32 → Prop} (hl : l ≤ 360) (hb1 : 1 ≤ b) (hb : b ≤ 16) (h : Q (nI (ofr l b))) : wp_X10_offOf fu (nI l) (nI b) Q := by
  have hm : l % b < b := Nat.mod_lt _ hb1
  unfold wp_X10_offOf
  unfold ofr at h
  refine ⟨nI_ne0 hb1 (by omega), fun y hy => ?_⟩
  rw [irm_nI (by omega) (by omega) (by omega)] at hy
  rw [hy]
  refine wif (fun c => ?_) (fun c => ?_)
  · have c' := c
    rw [nI_leI (by omega) (by omega)] at c'
    rw [if_neg (by omega)] at h
    unfold wX10_offOf_16 wX10_offOf_31
    rw [nI_sub (by omega)]
    refine wifp c (wif (fun c2 => ?_) (fun c2 => ?_)) <;> rw [nI_leI (by omega) (by omega)] at c2
    · by_cases c3 : b - l % b < l % b
      · rwa [if_pos c3] at h
      · rw [if_neg c3] at h
        rw [show b - l % b = l % b by omega]
        exact h
    · rwa [if_neg (by omega)] at h
  · have c' := c
    rw [nI_leI (by omega) (by omega)] at c'
    rw [if_pos (by omega)] at h
    unfold wX10_offOf_16 wX10_offOf_31
    refine wifn c ?_
    rw [nI_sub (show l ≤ b by omega)]
    exact wifp (nI_le (by omega) (by omega)) h
/-- the sum over the runs 1 .. k -/
def sof (L : Nat → Int32) (t b : Nat) : Nat → Nat
  | 0 => 0
  | k + 1 => sof L t b k + ofr (lnc L (k + 1) t) b
theorem ofr_le {l b : Nat} (hl : l ≤ 360) (hb1 : 1 ≤ b) (hb : b ≤ 16) : ofr l b ≤ 16 := by
  have hm : l % b < b := Nat.mod_lt _ hb1
  unfold ofr
  split
  · omega
  · split <;> omega
theorem sof_le {L : Nat → Int32} {t b : Nat} (ht : t ≤ 360) (hb1 : 1 ≤ b) (hb : b ≤ 16) : ∀ k, sof L t b k ≤ 16 * k := by
  intro k
  induction k with
  | zero => exact Nat.le_refl _
  | succ k ih =>
    have h1 := lnc_le (L := L) (i := k + 1) t
    have := ofr_le (l := lnc L (k + 1) t) (by omega) hb1 hb
    rw [sof]
    omega
def OFF (L : Nat → Int32) (t b : Nat) : Nat := sof L t b (rc L t - 2)
theorem offByC_lp {fu t b : Nat} {L fi la : Nat → Int32} {Q : Int32 → Prop} (ht : t ≤ 360) (hr : RunsOK L t fi la) (hb1 : 1 ≤ b) (hb : b ≤ 16) (h : Q (nI (OFF L t b))) (h2 : 2 ≤ rc L t) : ∀ (n fuel k : Nat), k + n = rc L t - 2 → n < fuel → wX5_offBy_11 fu (nI (rc L t)) (nI t) la (nI b) Q fuel (nI (sof L t b k)) (nI (ps L t (k + 1))) (nI (k + 1)) := by
  have hrc := rc_le L t
  intro n
  induction n with
  | zero =>
    intro fuel k hk hf
    obtain ⟨f, rfl⟩ : ∃ f, fuel = f + 1 := ⟨fuel - 1, by omega⟩
    unfold wX5_offBy_11
    refine wifp ?_ ?_
    · rw [show (1 : Int32) = nI 1 from rfl, nI_sub (by omega)]
      exact nI_le (by omega) (by omega)
    · rw [show k = rc L t - 2 by omega]
      exact h
  | succ n ih =>
    intro fuel k hk hf
    obtain ⟨f, rfl⟩ : ∃ f, fuel = f + 1 := ⟨fuel - 1, by omega⟩
    have hs := sof_le (L := L) ht hb1 hb k
    have hlt := lnc_le (L := L) (i := k + 1) t
    have hin := (ps_all (L := L) (t := t) (k + 1) (by omega)).1
    have hn := (ps_all (L := L) (t := t) (k + 1 + 1) (by omega)).1
    rw [ps] at hn
    unfold wX5_offBy_11
    refine wifn ?_ (lengthFrom_ok ht hr hin ?_)
    · rw [show (1 : Int32) = nI 1 from rfl, nI_sub (by omega), nI_leI (by omega) (by omega)]
      omega
    · rw [← ln_eq (show k + 1 < rc L t by omega)]
      refine offOfRun_ok (by omega) hb1 hb (fun y hy => ?_)
      refine nextEdge_ok ht hr hin (fun _ => ?_) (fun hh => absurd hn hh)
      rw [hy, nI_add, show (1 : Int32) = nI 1 from rfl, nI_add]
      exact ih f (k + 1) (by omega) (by omega)
theorem offByC_ok {fu t b : Nat} {L fi la : Nat → Int32} {Q : Int32 → Prop} (hfu : 400 ≤ fu) (ht : t ≤ 360) (hr : RunsOK L t fi la) (hb1 : 1 ≤ b) (hb : b ≤ 16) (h : Q (nI (OFF L t b))) : wp_X5_offBy fu (nI (rc L t)) (nI t) la (nI b) Q := by
  have hrc := rc_le L t
  unfold wp_X5_offBy
  have small : rc L t < 2 → ∀ r1 : Int32, wX5_offBy_11 fu (nI (rc L t)) (nI t) la (nI b) Q fu (0 : Int32) r1 (1 : Int32) := by
    intro hs r1
    obtain ⟨f, rfl⟩ : ∃ f, fu = f + 1 := ⟨fu - 1, by omega⟩
    have e : OFF L t b = 0 := by unfold OFF; rw [show rc L t - 2 = 0 by omega]; rfl
    rw [e] at h
    unfold wX5_offBy_11
    refine wifp ?_ h
    rcases (show rc L t = 0 ∨ rc L t = 1 by omega) with e2 | e2 <;> rw [e2] <;> decide
  by_cases c : 2 ≤ rc L t
  · have h0 := (ps_all (L := L) (t := t) 0 (by omega)).1
    have h1 := (ps_all (L := L) (t := t) 1 (by omega)).1
    have hn : ps L t 0 + AH L t (ps L t 0) + 1 < t := h1
    refine nextEdge_ok ht hr (show 0 < t from h0) (fun _ => ?_) (fun hh => absurd hn hh)
    exact offByC_lp ht hr hb1 hb h c (rc L t - 2) fu 0 (by omega) (by omega)
  · by_cases c2 : 0 < t
    · refine nextEdge_ok ht hr c2 (fun _ => small (by omega) _) (fun _ => small (by omega) _)
    · exact nextEdge_out (Or.inr (by rw [show t = 0 by omega]; decide)) (small (by omega) _)
theorem offByM_lp {fu t b e : Nat} {row L : Nat → Int32} {Q : Int32 → Prop} (hfu : 400 ≤ fu) (hw : MW row L t) (hb1 : 1 ≤ b) (hb : b ≤ 16) (he : e = rc L t - 2) (h : Q (nI (sof L t b e))) : ∀ (n fuel k : Nat), k + n = e → n < fuel → 2 ≤ rc L t → wX10_offBy_13 fu row (nI b) Q fuel (nI (sof L t b k)) (nI (rc L t - 1)) (nI (k + 1)) := by
  have ht := hw.2.1
  have hrc := rc_le L t
  intro n
  induction n with
  | zero =>
    intro fuel k hk hf h2
    obtain ⟨f, rfl⟩ : ∃ f, fuel = f + 1 := ⟨fuel - 1, by omega⟩
    unfold wX10_offBy_13
    refine wifp (nI_le (by omega) (by omega)) ?_
    rw [show k = e by omega]
    exact h
  | succ n ih =>
    intro fuel k hk hf h2
    obtain ⟨f, rfl⟩ : ∃ f, fuel = f + 1 := ⟨fuel - 1, by omega⟩
    have hlt := lnc_le (L := L) (i := k + 1) t
    unfold wX10_offBy_13
    refine wifn (by rw [nI_leI (by omega) (by omega)]; omega) (runOf_ok hfu (by omega) hw (offOf_ok (by omega) hb1 hb (fun y hy => ?_)))
    rw [hy, nI_add, show (1 : Int32) = nI 1 from rfl, nI_add]
    exact ih f (k + 1) (by omega) (by omega) h2
theorem offByM_ok {fu t b : Nat} {row L : Nat → Int32} {Q : Int32 → Prop} (hfu : 400 ≤ fu) (hw : MW row L t) (hb1 : 1 ≤ b) (hb : b ≤ 16) (h : Q (nI (OFF L t b))) : wp_X10_offBy fu row (nI b) Q := by
  have ht := hw.2.1
  have hrc := rc_le L t
  unfold wp_X10_offBy
  refine edgesM_ok hfu hw ?_
  by_cases c : 2 ≤ rc L t
  · exact offByM_lp hfu hw hb1 hb rfl h (rc L t - 2) fu 0 (by omega) (by omega) c
  · obtain ⟨f, rfl⟩ : ∃ f, fu = f + 1 := ⟨fu - 1, by omega⟩
    have e : OFF L t b = 0 := by unfold OFF; rw [show rc L t - 2 = 0 by omega]; rfl
    rw [e] at h
    unfold wX10_offBy_13
    refine wifp ?_ h
    rw [show rc L t - 1 = 0 by omega]
    decide
/-- the width, with those up to k looked at -/
def wdt (L : Nat → Int32) (t : Nat) : Nat → Nat
  | 0 => 1
  | k + 1 => if OFF L t (wdt L t k) < OFF L t (k + 2) then wdt L t k else k + 2
theorem wdt_le {L : Nat → Int32} {t : Nat} : ∀ k, 1 ≤ wdt L t k ∧ wdt L t k ≤ k + 1 := by
  intro k
  induction k with
  | zero => exact ⟨Nat.le_refl _, Nat.le_refl _⟩
  | succ k ih =>
    rw [wdt]
    split <;> omega
theorem OFF_le {L : Nat → Int32} {t b : Nat} (ht : t ≤ 360) (hb1 : 1 ≤ b) (hb : b ≤ 16) : OFF L t b < 6000 := by
  have hrc := rc_le L t
  have := sof_le (L := L) ht hb1 hb (rc L t - 2)
  unfold OFF
  omega
theorem widthC_lp {fu t : Nat} {L fi la : Nat → Int32} {Q : Int32 → Prop} (hfu : 400 ≤ fu) (ht : t ≤ 360) (hr : RunsOK L t fi la) (h : Q (nI (wdt L t 15))) : ∀ (n fuel k : Nat), k + n = 15 → n < fuel → wX5_width_10 fu (nI (rc L t)) (nI t) la Q fuel (nI (wdt L t k)) (nI (OFF L t (wdt L t k))) (nI (k + 2)) := by
  intro n
  induction n with
  | zero =>
    intro fuel k hk hf
    obtain ⟨f, rfl⟩ : ∃ f, fuel = f + 1 := ⟨fuel - 1, by omega⟩
    unfold wX5_width_10
    rw [show k = 15 by omega]
    exact wifp (by decide) h
  | succ n ih =>
    intro fuel k hk hf
    obtain ⟨f, rfl⟩ : ∃ f, fuel = f + 1 := ⟨fuel - 1, by omega⟩
    obtain ⟨w1, w2⟩ := wdt_le (L := L) (t := t) k
    have o1 := OFF_le (L := L) ht w1 (by omega)
    have o2 := OFF_le (L := L) (b := k + 2) ht (by omega) (by omega)
    unfold wX5_width_10
    refine wifn (by simp (disch := omega) only [lit_nI, nI_ltI]; omega) (offByC_ok hfu ht hr (by omega) (by omega) ?_)
    refine wif (fun c => ?_) (fun c => ?_)
    · have c' := c
      rw [nI_ltI (by omega) (by omega)] at c'
      unfold wX5_width_34
      have e : wdt L t (k + 1) = wdt L t k := by rw [wdt, if_pos c']
      have := ih f (k + 1) (by omega) (by omega)
      rw [e] at this
      rw [show (1 : Int32) = nI 1 from rfl, nI_add]
      exact this
    · have c' := c
      rw [nI_ltI (by omega) (by omega)] at c'
      unfold wX5_width_34
      have e : wdt L t (k + 1) = k + 2 := by rw [wdt, if_neg c']
      have := ih f (k + 1) (by omega) (by omega)
      rw [e] at this
      rw [show (1 : Int32) = nI 1 from rfl, nI_add]
      exact this
theorem widthC_ok {fu t : Nat} {L fi la : Nat → Int32} {Q : Int32 → Prop} (hfu : 400 ≤ fu) (ht : t ≤ 360) (hr : RunsOK L t fi la) (h : Q (nI (wdt L t 15))) : wp_X5_width fu (nI (rc L t)) (nI t) la Q := by
  unfold wp_X5_width
  refine offByC_ok (b := 1) hfu ht hr (by omega) (by omega) ?_
  exact widthC_lp hfu ht hr h 15 fu 0 (by omega) (by omega)
theorem widthM_lp {fu t : Nat} {row L : Nat → Int32} {Q : Int32 → Prop} (hfu : 400 ≤ fu) (hw : MW row L t) (h : Q (nI (wdt L t 15))) : ∀ (n fuel k : Nat), k + n = 15 → n < fuel → wX10_width_10 fu row Q fuel (nI (wdt L t k)) (nI (OFF L t (wdt L t k))) (nI (k + 2)) := by
  have ht := hw.2.1
  intro n
  induction n with
  | zero =>
    intro fuel k hk hf
    obtain ⟨f, rfl⟩ : ∃ f, fuel = f + 1 := ⟨fuel - 1, by omega⟩
    unfold wX10_width_10
    rw [show k = 15 by omega]
    exact wifp (by decide) h
  | succ n ih =>
    intro fuel k hk hf
    obtain ⟨f, rfl⟩ : ∃ f, fuel = f + 1 := ⟨fuel - 1, by omega⟩
    obtain ⟨w1, w2⟩ := wdt_le (L := L) (t := t) k
    have o1 := OFF_le (L := L) ht w1 (by omega)
    have o2 := OFF_le (L := L) (b := k + 2) ht (by omega) (by omega)
    unfold wX10_width_10
    refine wifn (by simp (disch := omega) only [lit_nI, nI_leI]; omega) (offByM_ok hfu hw (by omega) (by omega) ?_)
    refine wif (fun c => ?_) (fun c => ?_)
    · have c' := c
      rw [nI_ltI (by omega) (by omega)] at c'
      unfold wX10_width_34 wX10_width_47
      have e : wdt L t (k + 1) = wdt L t k := by rw [wdt, if_pos c']
      have := ih f (k + 1) (by omega) (by omega)
      rw [e] at this
      refine wifp c ?_
      rw [show (1 : Int32) = nI 1 from rfl, nI_add]
      exact this
    · have c' := c
      rw [nI_ltI (by omega) (by omega)] at c'
      unfold wX10_width_34 wX10_width_47
      have e : wdt L t (k + 1) = k + 2 := by rw [wdt, if_neg c']
      have := ih f (k + 1) (by omega) (by omega)
      rw [e] at this
      refine wifn c ?_
      rw [show (1 : Int32) = nI 1 from rfl, nI_add]
      exact this
theorem widthM_ok {fu t : Nat} {row L : Nat → Int32} {Q : Int32 → Prop} (hfu : 400 ≤ fu) (hw : MW row L t) (h : Q (nI (wdt L t 15))) : wp_X10_width fu row Q := by
  unfold wp_X10_width
  refine offByM_ok (b := 1) hfu hw (by omega) (by omega) ?_
  exact widthM_lp hfu hw h 15 fu 0 (by omega) (by omega)
