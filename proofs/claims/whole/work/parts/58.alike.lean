/-! letters as lists of numbers; guesses that read alike -/
def lets (L : Nat → Int32) (t k : Nat) : List Nat := (RK L t k).1.map (lK L k)
def LH (le : Nat → Int32) (vs : List Nat) : Prop := ∀ i v, vs[i]? = some v → le i = nI v
def Sm (vs : List Nat) : Prop := vs.length ≤ 60 ∧ ∀ v ∈ vs, v < 256
theorem lets_len (L : Nat → Int32) (t k : Nat) : (lets L t k).length = nK L t k := by unfold lets nK; rw [List.length_map]
theorem lets_LH {L le : Nat → Int32} {t k : Nat} (h : ∀ j x, (RK L t k).1[j]? = some x → le j = nI (lK L k x)) : LH le (lets L t k) := by
  intro i v hv
  unfold lets at hv
  rw [List.getElem?_map] at hv
  cases e : (RK L t k).1[i]? with
  | none => rw [e] at hv; cases hv
  | some x => rw [e] at hv; rw [h i x e, Option.some.inj hv]
theorem lets_Sm {L : Nat → Int32} {t k : Nat} (ht : t ≤ 360) (hk : k < 768) : Sm (lets L t k) := by
  refine ⟨by rw [lets_len]; exact nK_le ht hk, fun v hv => ?_⟩
  unfold lets at hv
  obtain ⟨x, -, rfl⟩ := List.mem_map.mp hv
  exact LTR_lt (gok hk).2.2.2.1
def bvs (L : Nat → Int32) (t : Nat) : Option Nat → List Nat
  | none => []
  | some j => lets L t j
theorem BI_vs {L bl : Nat → Int32} {t : Nat} {o : Option Nat} {best bf bm : Int32} (ht : t ≤ 360) (h : BI L t o best bf bm bl) : bf = nI (bvs L t o).length ∧ LH bl (bvs L t o) ∧ Sm (bvs L t o) := by
  cases o with
  | none => exact ⟨h.2, fun i v hv => by simp [bvs] at hv, ⟨Nat.zero_le _, fun v hv => by cases hv⟩⟩
  | some j =>
    obtain ⟨hj, hf, e1, e2, e3, e4⟩ := h
    exact ⟨by rw [e2]; show _ = nI (lets L t j).length; rw [lets_len], lets_LH e4, lets_Sm ht hj⟩
theorem LH_at {le : Nat → Int32} {vs : List Nat} {i : Nat} (h : LH le vs) (hi : i < vs.length) : le i = nI (vs[i]'hi) := h i _ (List.getElem?_eq_getElem hi)
theorem rlb_lp {fu : Nat} {bl le : Nat → Int32} {us vs : List Nat} {x1 : Int32} {Q : Int32 → Prop} (hu : LH le us) (hv : LH bl vs) (su : Sm us) (sv : Sm vs) (hl : us.length = vs.length) (h1 : us = vs → Q 1) (h0 : us ≠ vs → Q 0) : ∀ (n fuel i : Nat), i + n = vs.length → n < fuel → (∀ j, j < i → us[j]? = vs[j]?) → wX3_readsLikeBest_15 fu (nI vs.length) bl x1 le Q fuel (nI i) := by
  have h60 := sv.1
  intro n
  induction n with
  | zero =>
    intro fuel i hi hf hj
    obtain ⟨f, rfl⟩ : ∃ f, fuel = f + 1 := ⟨fuel - 1, by omega⟩
    unfold wX3_readsLikeBest_15
    refine wifp (nI_le (by omega) (by omega)) (h1 (List.ext_getElem? (fun j => ?_)))
    by_cases c : j < i
    · exact hj j c
    · rw [List.getElem?_eq_none (by omega), List.getElem?_eq_none (by omega)]
  | succ n ih =>
    intro fuel i hi hf hj
    obtain ⟨f, rfl⟩ : ∃ f, fuel = f + 1 := ⟨fuel - 1, by omega⟩
    unfold wX3_readsLikeBest_15
    refine wifn (by rw [nI_leI (by omega) (by omega)]; omega) (wifn (by simp (disch := omega) only [lit_nI, nI_leI]; omega) ⟨vin (by omega) (by omega), vin (by omega) (by omega), ?_⟩)
    have iu : i < us.length := by omega
    have iv : i < vs.length := by omega
    have bu := su.2 _ (List.getElem_mem iu)
    have bv := sv.2 _ (List.getElem_mem iv)
    rw [ix_nI (by omega), LH_at hu iu, LH_at hv iv]
    refine wif (fun c => ?_) (fun c => ?_) <;> rw [nI_eq (by omega) (by omega)] at c
    · rw [show (1 : Int32) = nI 1 from rfl, nI_add]
      refine ih f (i + 1) (by omega) (by omega) (fun j hj2 => ?_)
      by_cases c2 : j = i
      · rw [c2, List.getElem?_eq_getElem iu, List.getElem?_eq_getElem iv, c]
      · exact hj j (by omega)
    · refine h0 (fun e => c ?_)
      subst e
      rfl
theorem readsLikeBest_ok {fu : Nat} {bl le : Nat → Int32} {us vs : List Nat} {Q : Int32 → Prop} (hfu : 400 ≤ fu) (hu : LH le us) (hv : LH bl vs) (su : Sm us) (sv : Sm vs) (h1 : us = vs → Q 1) (h0 : us ≠ vs → Q 0) : wp_X3_readsLikeBest fu (nI vs.length) bl (nI us.length) le Q := by
  have a := su.1
  have b := sv.1
  unfold wp_X3_readsLikeBest
  refine wif (fun c => ?_) (fun c => ?_) <;> rw [nI_eq (by omega) (by omega)] at c
  · exact rlb_lp hu hv su sv c h1 h0 vs.length fu 0 (by omega) (by omega) (fun j hj => by omega)
  · exact h0 (fun e => c (by rw [e]))
theorem iab_lp {fu : Nat} {bf : Int32} {bl le : Nat → Int32} {us vs : List Nat} {Q : Int32 → Prop} (hu : LH le us) (hv : LH bl vs) (su : Sm us) (sv : Sm vs) (hl : us.length = vs.length) (h1 : us = vs → Q 1) (h0 : us ≠ vs → Q 0) : ∀ (n fuel i : Nat), i + n = us.length → n + 1 < fuel → (∀ j, j < i → us[j]? = vs[j]?) → wX10_isAsBest_19 fu bf (nI us.length) bl le Q fuel 1 (nI i) := by
  have h60 := sv.1
  intro n
  induction n with
  | zero =>
    intro fuel i hi hf hj
    obtain ⟨f, rfl⟩ : ∃ f, fuel = f + 1 := ⟨fuel - 1, by omega⟩
    unfold wX10_isAsBest_19
    refine wifp (nI_le (by omega) (by omega)) ⟨Or.inr rfl, h1 (List.ext_getElem? (fun j => ?_))⟩
    by_cases c : j < i
    · exact hj j c
    · rw [List.getElem?_eq_none (by omega), List.getElem?_eq_none (by omega)]
  | succ n ih =>
    intro fuel i hi hf hj
    obtain ⟨f, rfl⟩ : ∃ f, fuel = f + 1 := ⟨fuel - 1, by omega⟩
    unfold wX10_isAsBest_19
    refine wifn (by rw [nI_leI (by omega) (by omega)]; omega) (wifn (by decide) ⟨vin (by omega) (by omega), vin (by omega) (by omega), ?_⟩)
    have iu : i < us.length := by omega
    have iv : i < vs.length := by omega
    have bu := su.2 _ (List.getElem_mem iu)
    have bv := sv.2 _ (List.getElem_mem iv)
    rw [ix_nI (by omega), LH_at hu iu, LH_at hv iv]
    refine wif (fun c => ?_) (fun c => ?_) <;> rw [nI_eq (by omega) (by omega)] at c
    · unfold wX10_isAsBest_51
      rw [show nI i + (1 : Int32) = nI (i + 1) from by rw [show (1 : Int32) = nI 1 from rfl, nI_add]]
      refine ih f (i + 1) (by omega) (by omega) (fun j hj2 => ?_)
      by_cases c2 : j = i
      · rw [c2, List.getElem?_eq_getElem iu, List.getElem?_eq_getElem iv, c]
      · exact hj j (by omega)
    · have hq := h0 (fun e => c (by subst e; rfl))
      unfold wX10_isAsBest_51
      obtain ⟨f2, rfl⟩ : ∃ f2, f = f2 + 1 := ⟨f - 1, by omega⟩
      unfold wX10_isAsBest_19
      exact wif (fun _ => ⟨Or.inl rfl, hq⟩) (fun _ => wifp rfl ⟨Or.inl rfl, hq⟩)
theorem isAsBest_ok {fu : Nat} {bl le : Nat → Int32} {us vs : List Nat} {Q : Int32 → Prop} (hfu : 400 ≤ fu) (hu : LH le us) (hv : LH bl vs) (su : Sm us) (sv : Sm vs) (h1 : us = vs → Q 1) (h0 : us ≠ vs → Q 0) : wp_X10_isAsBest fu (nI vs.length) (nI us.length) bl le Q := by
  have a := su.1
  have b := sv.1
  unfold wp_X10_isAsBest wX10_isAsBest_16
  refine wif (fun c => ?_) (fun c => ?_) <;> rw [nI_eq (by omega) (by omega)] at c
  · exact iab_lp hu hv su sv c h1 h0 us.length fu 0 (by omega) (by omega) (fun j hj => by omega)
  · obtain ⟨f, rfl⟩ : ∃ f, fu = f + 1 := ⟨fu - 1, by omega⟩
    have hq := h0 (fun e => c (by rw [e]))
    unfold wX10_isAsBest_19
    exact wif (fun _ => ⟨Or.inl rfl, hq⟩) (fun _ => wifp rfl ⟨Or.inl rfl, hq⟩)
def cal (L : Nat → Int32) (t : Nat) (vs : List Nat) : Nat → Nat
  | 0 => 0
  | k + 1 => cal L t vs k + (if fitK L t k ∧ lets L t k = vs then 1 else 0)
theorem cal_le (L : Nat → Int32) (t : Nat) (vs : List Nat) : ∀ k, cal L t vs k ≤ k := by
  intro k
  induction k with
  | zero => exact Nat.le_refl _
  | succ k ih =>
    rw [cal]
    split <;> omega
theorem cal_nil (L : Nat → Int32) (t : Nat) : ∀ k, cal L t [] k = 0 := by
  intro k
  induction k with
  | zero => rfl
  | succ k ih =>
    rw [cal, ih, if_neg]
    intro hh
    have := hh.1.2
    have h2 := lets_len L t k
    rw [hh.2] at h2
    exact this h2.symm
theorem countAlike_lp {fu t : Nat} {lev L fi la bl : Nat → Int32} {vs : List Nat} {Q : Int32 → Int32 → Int32 → Int32 → Int32 → Int32 → Int32 → Int32 → Int32 → Int32 → (Nat → Int32) → (Nat → Int32) → Prop} (hfu : 1000 ≤ fu) (hw : CW lev (nI t) L t) (hbt : Bt L t) (hr : RunsOK L t fi la) (hv : LH bl vs) (sv : Sm vs)
    (h : ∀ b1 b2 b3 b4 b5 b6 b7 b8 b9 le st, Q (nI (cal L t vs 768)) b1 b2 b3 b4 b5 b6 b7 b8 b9 le st) :
    ∀ (n fuel k : Nat) (b1 b2 b3 b4 b5 b6 b7 b8 b9 : Int32) (le st : Nat → Int32), k + n = 768 → n < fuel → wX3_countAlike_4 fu (nI vs.length) bl (nI t) lev (nI t) fi la Q fuel (nI (cal L t vs k)) (nI k) b1 b2 b3 b4 b5 b6 b7 b8 b9 le st := by
  have ht := hw.2.1
  intro n
  induction n with
  | zero =>
    intro fuel k b1 b2 b3 b4 b5 b6 b7 b8 b9 le st hk hf
    obtain ⟨f, rfl⟩ : ∃ f, fuel = f + 1 := ⟨fuel - 1, by omega⟩
    have e : k = 768 := by omega
    subst e
    unfold wX3_countAlike_4
    exact wifp (by decide) (h _ _ _ _ _ _ _ _ _ _ _)
  | succ n ih =>
    intro fuel k b1 b2 b3 b4 b5 b6 b7 b8 b9 le st hk hf
    obtain ⟨f, rfl⟩ : ∃ f, fuel = f + 1 := ⟨fuel - 1, by omega⟩
    have hk7 : k < 768 := by omega
    unfold wX3_countAlike_4
    refine wifn (by simp (disch := omega) only [lit_nI, nI_leI]; omega) (become_ok hk7 ?_)
    have same : ¬ (fitK L t k ∧ lets L t k = vs) → cal L t vs k = cal L t vs (k + 1) := by
      intro hh
      rw [cal, if_neg hh]
      rfl
    refine readK_C (by omega) hw hbt hr hk7 (fun hfit fs' le' st' hle hfi => ?_) (fun hno fs' fl' fr' mm' le' st' hfi => ?_)
    · refine fitsC_use hfi (wifn (by decide) ?_)
      rw [← lets_len]
      refine readsLikeBest_ok (by omega) (lets_LH hle) hv (lets_Sm ht hk7) sv (fun e => wifn (by decide) ?_) (fun e => wifp rfl ?_)
      · unfold wX3_countAlike_45
        have e1 : cal L t vs k + 1 = cal L t vs (k + 1) := by rw [cal, if_pos ⟨hfit, e⟩]
        rw [show (1 : Int32) = nI 1 from rfl, nI_add, nI_add, e1]
        exact ih f (k + 1) _ _ _ _ _ _ _ _ _ _ _ (by omega) (by omega)
      · unfold wX3_countAlike_45
        rw [show (1 : Int32) = nI 1 from rfl, nI_add, same (fun hh => e hh.2)]
        exact ih f (k + 1) _ _ _ _ _ _ _ _ _ _ _ (by omega) (by omega)
    · refine fitsC_use hfi (wifp rfl ?_)
      unfold wX3_countAlike_45
      rw [show (1 : Int32) = nI 1 from rfl, nI_add, same (fun hh => hno hh.1)]
      exact ih f (k + 1) _ _ _ _ _ _ _ _ _ _ _ (by omega) (by omega)
theorem alikes_lp {fu t : Nat} {row L bl de : Nat → Int32} {vs : List Nat} {fd x9 : Int32} {Q : Int32 → Int32 → Int32 → Int32 → Int32 → Int32 → Int32 → Int32 → Int32 → Int32 → Int32 → Int32 → Int32 → (Nat → Int32) → (Nat → Int32) → (Nat → Int32) → (Nat → Int32) → Prop} (hfu : 1000 ≤ fu) (hw : MW row L t) (hfd : ¬ fd = -9) (hv : LH bl vs) (sv : Sm vs)
    (h : ∀ b1 b2 b3 b5 b6 b7 b8 b9 b10 le st, Q (nI (cal L t vs 768)) (nI (cal L t vs 768)) (nI vs.length) b1 b2 b3 x9 b5 b6 b7 b8 b9 b10 bl de le st) :
    ∀ (n fuel k : Nat) (b1 b2 b3 b5 b6 b7 b8 b9 b10 : Int32) (le st : Nat → Int32), k + n = 768 → n < fuel → wX10_alikes_16 fu row Q fuel fd (nI k) (nI (cal L t vs k)) (nI vs.length) b1 b2 b3 x9 b5 b6 b7 b8 b9 b10 bl de le st := by
  have ht := hw.2.1
  intro n
  induction n with
  | zero =>
    intro fuel k b1 b2 b3 b5 b6 b7 b8 b9 b10 le st hk hf
    obtain ⟨f, rfl⟩ : ∃ f, fuel = f + 1 := ⟨fuel - 1, by omega⟩
    have e : k = 768 := by omega
    subst e
    unfold wX10_alikes_16
    exact wifp (by decide) (h _ _ _ _ _ _ _ _ _ _ _)
  | succ n ih =>
    intro fuel k b1 b2 b3 b5 b6 b7 b8 b9 b10 le st hk hf
    obtain ⟨f, rfl⟩ : ∃ f, fuel = f + 1 := ⟨fuel - 1, by omega⟩
    have hk7 : k < 768 := by omega
    unfold wX10_alikes_16
    refine wifn (by simp (disch := omega) only [lit_nI, nI_leI]; omega) (wifn hfd (codeOf_ok hk7 (layCodeK_ok hk7 ?_)))
    have same : ¬ (fitK L t k ∧ lets L t k = vs) → cal L t vs k + 0 = cal L t vs (k + 1) := by
      intro hh
      rw [cal, if_neg hh]
    refine readK_M (by omega) hw hk7 (fun hfit fs' mm' le' st' hmm hle hfi => ?_) (fun hno fs' fl' fr' mm' le' st' hfi => ?_)
    · refine wifn (by decide) (fitsM_use hfi (wifn (by decide) ?_))
      rw [← lets_len]
      refine isAsBest_ok (by omega) (lets_LH hle) hv (lets_Sm ht hk7) sv (fun e => wifn (by decide) ?_) (fun e => wifp rfl ?_)
      · unfold wX10_alikes_74
        have e1 : cal L t vs k + 1 = cal L t vs (k + 1) := by rw [cal, if_pos ⟨hfit, e⟩]
        rw [show (1 : Int32) = nI 1 from rfl, nI_add, nI_add, e1]
        exact ih f (k + 1) _ _ _ _ _ _ _ _ _ _ _ (by omega) (by omega)
      · unfold wX10_alikes_73 wX10_alikes_74
        rw [show (1 : Int32) = nI 1 from rfl, show (0 : Int32) = nI 0 from rfl, nI_add, nI_add, same (fun hh => e hh.2)]
        exact ih f (k + 1) _ _ _ _ _ _ _ _ _ _ _ (by omega) (by omega)
    · refine wifn (by decide) (fitsM_use hfi (wifp rfl ?_))
      unfold wX10_alikes_73 wX10_alikes_74
      rw [show (1 : Int32) = nI 1 from rfl, show (0 : Int32) = nI 0 from rfl, nI_add, nI_add, same (fun hh => hno hh.1)]
      exact ih f (k + 1) _ _ _ _ _ _ _ _ _ _ _ (by omega) (by omega)
theorem alikes_ok {fu t : Nat} {row L : Nat → Int32} {Q : Int32 → Int32 → Int32 → Int32 → Int32 → Int32 → Int32 → Int32 → Int32 → Int32 → Int32 → Int32 → Int32 → (Nat → Int32) → (Nat → Int32) → (Nat → Int32) → (Nat → Int32) → Prop} {a0 a1 a2 a3 a4 a5 a6 a7 a8 a9 a10 a11 : Int32} {a12 a13 a14 a15 : Nat → Int32} (hfu : 1000 ≤ fu) (hw : MW row L t)
    (h : ∀ b0 b1 b2 b3 b4 b5 b6 b7 b8 b9 b10 b11 bl de le st, Q (nI (cal L t (bvs L t (bst L t 768)) 768)) b0 b1 b2 b3 b4 b5 b6 b7 b8 b9 b10 b11 bl de le st) : wp_X10_alikes fu row a0 a1 a2 a3 a4 a5 a6 a7 a8 a9 a10 a11 a12 a13 a14 a15 Q := by
  have ht := hw.2.1
  unfold wp_X10_alikes
  refine best_ok hfu hw (fun de best bf bm bl b1 b2 b3 b5 b6 b7 b8 b9 b10 le st hd hb => ?_)
  obtain ⟨e1, e2, e3⟩ := BI_vs ht hb
  cases eo : bst L t 768 with
  | none =>
    rw [eo] at hb h
    obtain ⟨f, rfl⟩ : ∃ f, fu = f + 1 := ⟨fu - 1, by omega⟩
    unfold wX10_alikes_16
    refine wifn (by decide) (wifp hb.1 ?_)
    have := h 0 bf b1 b2 b3 (nI (cnf L t 768)) b5 b6 b7 b8 b9 b10 bl de le st
    rw [show bvs L t none = [] from rfl, cal_nil] at this
    exact this
  | some j =>
    rw [eo] at hb e1 e2 e3 h
    rw [e1]
    exact alikes_lp hfu hw (by rw [hb.2.2.1]; exact cdN_n9 hb.1) e2 e3 (fun _ _ _ _ _ _ _ _ _ _ _ => h _ _ _ _ _ _ _ _ _ _ _ _ _ _ _ _) 768 fu 0 _ _ _ _ _ _ _ _ _ _ _ (by omega) (by omega)
