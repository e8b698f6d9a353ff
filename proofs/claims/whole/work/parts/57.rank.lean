/-! the best guess -/
def bst (L : Nat → Int32) (t : Nat) : Nat → Option Nat
  | 0 => none
  | k + 1 => if fitK L t k then (match bst L t k with
      | none => some k
      | some j => if mK L t j < mK L t k ∨ (mK L t j = mK L t k ∧ nK L t j < nK L t k) then some k else some j)
    else bst L t k
def cnf (L : Nat → Int32) (t : Nat) : Nat → Nat
  | 0 => 0
  | k + 1 => cnf L t k + (if fitK L t k then 1 else 0)
theorem cnf_le (L : Nat → Int32) (t : Nat) : ∀ k, cnf L t k ≤ k := by
  intro k
  induction k with
  | zero => exact Nat.le_refl _
  | succ k ih =>
    rw [cnf]
    split <;> omega
def BI (L : Nat → Int32) (t : Nat) (o : Option Nat) (best bf bm : Int32) (bl : Nat → Int32) : Prop := match o with
  | none => best = -9 ∧ bf = 0
  | some j => j < 768 ∧ fitK L t j ∧ best = nI (cdN j) ∧ bf = nI (nK L t j) ∧ bm = nI (mK L t j) ∧ ∀ i x, (RK L t j).1[i]? = some x → bl i = nI (lK L j x)
theorem cdN_n9 {j : Nat} (h : j < 768) : ¬ nI (cdN j) = (-9 : Int32) := by
  have := (cdN_parts h).2.2.2.2.2
  simp (disch := omega) only [lit_nI, nI_n9, not_false_eq_true]
theorem isBetter_ok {fu t k : Nat} {L bl : Nat → Int32} {o : Option Nat} {best bf bm : Int32} {Q : Int32 → Prop} (ht : t ≤ 360) (hk : k < 768) (hb : BI L t o best bf bm bl) (h1 : (∀ j, o = some j → mK L t j < mK L t k ∨ (mK L t j = mK L t k ∧ nK L t j < nK L t k)) → Q 1) (h0 : ∀ j, o = some j → ¬ (mK L t j < mK L t k ∨ (mK L t j = mK L t k ∧ nK L t j < nK L t k)) → Q 0) : wp_X3_isBetter fu best bf bm (nI (nK L t k)) (nI (mK L t k)) Q := by
  unfold wp_X3_isBetter
  cases o with
  | none =>
    obtain ⟨e, -⟩ := hb
    refine wifp e ?_
    unfold wX3_isBetter_20 wX3_isBetter_40
    exact wifp e (h1 (fun j hj => by cases hj))
  | some j =>
    obtain ⟨hj, hf, e1, e2, e3, -⟩ := hb
    have a1 := mK_le (L := L) (t := t) (k := j)
    have a2 := mK_le (L := L) (t := t) (k := k)
    have a3 := nK_le (L := L) ht hj
    have a4 := nK_le (L := L) ht hk
    subst e1 e2 e3
    refine wifn (cdN_n9 hj) (wif (fun c => ?_) (fun c => ?_))
    · rw [nI_eq (by omega) (by omega)] at c
      refine wif (fun c2 => ?_) (fun c2 => ?_) <;> rw [nI_leI (by omega) (by omega)] at c2
      · exact h0 j rfl (by omega)
      · exact h1 (fun i hi => by cases hi; omega)
    · rw [nI_eq (by omega) (by omega)] at c
      unfold wX3_isBetter_20 wX3_isBetter_40
      refine wifn (cdN_n9 hj) ?_
      refine wif (fun c2 => ?_) (fun c2 => ?_) <;> rw [nI_leI (by omega) (by omega)] at c2
      · exact h0 j rfl (by omega)
      · exact h1 (fun i hi => by cases hi; omega)
theorem bst_new {L : Nat → Int32} {t k : Nat} (hf : fitK L t k) (h : ∀ j, bst L t k = some j → mK L t j < mK L t k ∨ (mK L t j = mK L t k ∧ nK L t j < nK L t k)) : bst L t (k + 1) = some k := by
  rw [bst, if_pos hf]
  cases e : bst L t k with
  | none => rfl
  | some j =>
    show (if _ then some k else some j) = some k
    rw [if_pos (h j e)]
theorem bst_old {L : Nat → Int32} {t k j : Nat} (hf : fitK L t k) (e : bst L t k = some j) (h : ¬ (mK L t j < mK L t k ∨ (mK L t j = mK L t k ∧ nK L t j < nK L t k))) : bst L t (k + 1) = some j := by
  rw [bst, if_pos hf, e]
  show (if _ then some k else some j) = some j
  rw [if_neg h]
theorem bst_no {L : Nat → Int32} {t k : Nat} (hf : ¬ fitK L t k) : bst L t (k + 1) = bst L t k := by rw [bst, if_neg hf]
theorem rank_lp {fu t : Nat} {lev L fi la : Nat → Int32} {rr : Int32} {Q : Int32 → Int32 → Int32 → Int32 → (Nat → Int32) → Int32 → Int32 → Int32 → Int32 → Int32 → Int32 → Int32 → Int32 → Int32 → (Nat → Int32) → Int32 → Int32 → (Nat → Int32) → (Nat → Int32) → (Nat → Int32) → Prop} (hfu : 1000 ≤ fu) (hw : CW lev (nI t) L t) (hbt : Bt L t) (hr : RunsOK L t fi la)
    (h : ∀ best bf bm bl tb td ti tp ts fs fl fr mg le st, BI L t (bst L t 768) best bf bm bl → Q best bf bm (nI (cnf L t 768)) bl tb td ti tp ts fs fl fr mg le rr (nI t) fi la st) :
    ∀ (n fuel k : Nat) (best bf bm : Int32) (bl : Nat → Int32) (tb td ti tp ts fs fl fr mg : Int32) (le st : Nat → Int32), k + n = 768 → n < fuel → BI L t (bst L t k) best bf bm bl → wX3_rank_28 fu (nI t) lev Q fuel (nI k) best bf bm (nI (cnf L t k)) bl tb td ti tp ts fs fl fr mg le rr (nI t) fi la st := by
  have ht := hw.2.1
  intro n
  induction n with
  | zero =>
    intro fuel k best bf bm bl tb td ti tp ts fs fl fr mg le st hk hf hb
    obtain ⟨f, rfl⟩ : ∃ f, fuel = f + 1 := ⟨fuel - 1, by omega⟩
    have e : k = 768 := by omega
    subst e
    unfold wX3_rank_28
    exact wifp (by decide) (h _ _ _ _ _ _ _ _ _ _ _ _ _ _ _ hb)
  | succ n ih =>
    intro fuel k best bf bm bl tb td ti tp ts fs fl fr mg le st hk hf hb
    obtain ⟨f, rfl⟩ : ∃ f, fuel = f + 1 := ⟨fuel - 1, by omega⟩
    have hc := cnf_le L t k
    unfold wX3_rank_28
    refine wifn (by simp (disch := omega) only [lit_nI, nI_leI]; omega) (become_ok (by omega) ?_)
    refine readK_C (by omega) hw hbt hr (by omega) (fun hfit fs' le' st' hle hfi => ?_) (fun hno fs' fl' fr' mm' le' st' hfi => ?_)
    · refine fitsC_use hfi (wifn (by decide) ?_)
      have e1 : nI (cnf L t k) + (1 : Int32) = nI (cnf L t (k + 1)) := by
        rw [show (1 : Int32) = nI 1 from rfl, nI_add, cnf, if_pos hfit]
      refine isBetter_ok ht (by omega) hb (fun hbet => wifn (by decide) ?_) (fun j hj hbet => wifp rfl ?_)
      · unfold wp_X3_becomeBest
        refine codeK_ok ?_
        unfold wX3_rank_81
        rw [e1, show (1 : Int32) = nI 1 from rfl, nI_add]
        refine ih f (k + 1) _ _ _ _ _ _ _ _ _ _ _ _ _ _ _ (by omega) (by omega) ?_
        rw [bst_new hfit hbet]
        refine ⟨by omega, hfit, rfl, rfl, rfl, fun i x hx => ?_⟩
        have hi : i < 60 := by
          have h1 := nK_le (L := L) ht (show k < 768 by omega)
          have h2 : i < (RK L t k).1.length := (List.getElem?_eq_some_iff.mp hx).1
          unfold nK at h1
          omega
        rw [pk_cpy_in (Nat.zero_le _) (by omega), show 0 + (i - 0) = i by omega]
        exact hle i x hx
      · unfold wX3_rank_81
        rw [e1, show (1 : Int32) = nI 1 from rfl, nI_add]
        refine ih f (k + 1) _ _ _ _ _ _ _ _ _ _ _ _ _ _ _ (by omega) (by omega) ?_
        rw [bst_old hfit hj hbet, ← hj]
        exact hb
    · refine fitsC_use hfi (wifp rfl ?_)
      unfold wX3_rank_81
      have e1 : cnf L t k = cnf L t (k + 1) := by rw [cnf, if_neg hno]; rfl
      rw [e1, show (1 : Int32) = nI 1 from rfl, nI_add]
      refine ih f (k + 1) _ _ _ _ _ _ _ _ _ _ _ _ _ _ _ (by omega) (by omega) ?_
      rw [bst_no hno]
      exact hb
theorem rank_ok {fu t : Nat} {lev L : Nat → Int32} {Q : Int32 → Int32 → Int32 → Int32 → (Nat → Int32) → Int32 → Int32 → Int32 → Int32 → Int32 → Int32 → Int32 → Int32 → Int32 → (Nat → Int32) → Int32 → Int32 → (Nat → Int32) → (Nat → Int32) → (Nat → Int32) → Prop} {a1 a2 a3 a4 : Int32} {a5 : Nat → Int32} {a6 a7 a8 a9 a10 a11 a12 a13 a14 : Int32} {a15 : Nat → Int32} {a16 a17 : Int32} {a18 a19 a20 : Nat → Int32} (hfu : 1000 ≤ fu) (hw : CW lev (nI t) L t) (hbt : Bt L t)
    (h : ∀ fi la best bf bm bl tb td ti tp ts fs fl fr mg le st, RunsOK L t fi la → BI L t (bst L t 768) best bf bm bl → Q best bf bm (nI (cnf L t 768)) bl tb td ti tp ts fs fl fr mg le (nI (rc L t)) (nI t) fi la st) : wp_X3_rank fu (nI t) lev a1 a2 a3 a4 a5 a6 a7 a8 a9 a10 a11 a12 a13 a14 a15 a16 a17 a18 a19 a20 Q := by
  unfold wp_X3_rank
  refine listenTo_ok (by omega) hw (fun fi la hr => ?_)
  exact rank_lp hfu hw hbt hr (fun best bf bm bl tb td ti tp ts fs fl fr mg le st hb => h fi la best bf bm bl tb td ti tp ts fs fl fr mg le st hr hb) 768 fu 0 _ _ _ _ _ _ _ _ _ _ _ _ _ _ _ (by omega) (by omega) ⟨rfl, rfl⟩
/-! the reference's best -/
theorem bestCopy_lp {fu m : Nat} {row : Nat → Int32} {Q : Int32 → Int32 → Int32 → Int32 → Int32 → Int32 → Int32 → Int32 → Int32 → Int32 → Int32 → Int32 → (Nat → Int32) → (Nat → Int32) → (Nat → Int32) → (Nat → Int32) → Prop} {K : Int32 → Int32 → Int32 → Int32 → Int32 → Int32 → Int32 → Int32 → Int32 → Int32 → Int32 → Int32 → Int32 → Int32 → (Nat → Int32) → (Nat → Int32) → (Nat → Int32) → (Nat → Int32) → Prop} {x2 x3 x4 bf b1 b2 b3 b4 b5 b6 b7 b8 b9 : Int32} {de le st : Nat → Int32} (hm : m ≤ 60)
    (h : ∀ bl', (∀ j, j < m → bl' j = le j) → wX10_best_153 fu row Q K x2 x3 x4 bf b1 b2 b3 b4 (nI m) b5 b6 b7 b8 b9 bl' de le st) :
    ∀ (n fuel i : Nat) (bl : Nat → Int32), i + n = m → n < fuel → (∀ j, j < i → bl j = le j) → wX10_best_124 fu row Q K fuel x2 x3 x4 (nI i) bf b1 b2 b3 b4 (nI m) b5 b6 b7 b8 b9 bl de le st := by
  intro n
  induction n with
  | zero =>
    intro fuel i bl hi hf hb
    obtain ⟨f, rfl⟩ : ∃ f, fuel = f + 1 := ⟨fuel - 1, by omega⟩
    unfold wX10_best_124
    exact wifp (nI_le (by omega) (by omega)) (h bl (fun j hj => hb j (by omega)))
  | succ n ih =>
    intro fuel i bl hi hf hb
    obtain ⟨f, rfl⟩ : ∃ f, fuel = f + 1 := ⟨fuel - 1, by omega⟩
    unfold wX10_best_124
    refine wifn (by rw [nI_leI (by omega) (by omega)]; omega) ⟨vin (by omega) (by omega), vin (by omega) (by omega), ?_⟩
    rw [show (1 : Int32) = nI 1 from rfl, nI_add, ix_nI (by omega)]
    refine ih f (i + 1) _ (by omega) (by omega) (fun j hj => ?_)
    rw [upd_ite]
    by_cases c : j = i
    · rw [if_pos c, c]
    · rw [if_neg c]; exact hb j (by omega)
theorem best_lp {fu t : Nat} {row L de : Nat → Int32} {Q : Int32 → Int32 → Int32 → Int32 → Int32 → Int32 → Int32 → Int32 → Int32 → Int32 → Int32 → Int32 → (Nat → Int32) → (Nat → Int32) → (Nat → Int32) → (Nat → Int32) → Prop} (hfu : 1000 ≤ fu) (hw : MW row L t) (hd : DeepOK L t de)
    (h : ∀ best bf bm bl b1 b2 b3 b5 b6 b7 b8 b9 b10 le st, BI L t (bst L t 768) best bf bm bl → Q best bf b1 b2 b3 (nI (cnf L t 768)) b5 b6 b7 b8 b9 b10 bl de le st) :
    ∀ (n fuel k : Nat) (best bf bm : Int32) (bl : Nat → Int32) (b1 b2 b3 b5 b6 b7 b8 b9 b10 : Int32) (le st : Nat → Int32), k + n = 768 → n < fuel → BI L t (bst L t k) best bf bm bl → wX10_best_23 fu row Q fuel best bm (nI k) bf b1 b2 b3 (nI (cnf L t k)) b5 b6 b7 b8 b9 b10 bl de le st := by
  have ht := hw.2.1
  intro n
  induction n with
  | zero =>
    intro fuel k best bf bm bl b1 b2 b3 b5 b6 b7 b8 b9 b10 le st hk hf hb
    obtain ⟨f, rfl⟩ : ∃ f, fuel = f + 1 := ⟨fuel - 1, by omega⟩
    have e : k = 768 := by omega
    subst e
    unfold wX10_best_23
    exact wifp (by decide) (h _ _ _ _ _ _ _ _ _ _ _ _ _ _ _ hb)
  | succ n ih =>
    intro fuel k best bf bm bl b1 b2 b3 b5 b6 b7 b8 b9 b10 le st hk hf hb
    obtain ⟨f, rfl⟩ : ∃ f, fuel = f + 1 := ⟨fuel - 1, by omega⟩
    have hk7 : k < 768 := by omega
    unfold wX10_best_23
    refine wifn (by simp (disch := omega) only [lit_nI, nI_leI]; omega) (codeOf_ok hk7 (layCodeK_ok hk7 ?_))
    refine readK_M (by omega) hw hk7 (fun hfit fs' mm' le' st' hmm hle hfi => ?_) (fun hno fs' fl' fr' mm' le' st' hfi => ?_)
    · refine wifn (by decide) (fitsM_use hfi (wifn (by decide) ?_))
      rw [hmm hd]
      have e1 : nI (cnf L t k) + (1 : Int32) = nI (cnf L t (k + 1)) := by
        rw [show (1 : Int32) = nI 1 from rfl, nI_add, cnf, if_pos hfit]
      have hn60 := nK_le (L := L) ht hk7
      have hmk := mK_le (L := L) (t := t) (k := k)
      rw [e1]
      have new : (∀ j, bst L t k = some j → mK L t j < mK L t k ∨ (mK L t j = mK L t k ∧ nK L t j < nK L t k)) → wX10_best_102 fu row Q (wX10_best_23 fu row Q f) (nI k) bf (nI (gd k)) 0 fs' (nI (cnf L t (k + 1))) (nI (nK L t k)) (gi k) (nI (mK L t k)) (nI (gp k)) (nI (gs k)) (nI (gb k)) bl de le' st' := by
        intro hbet
        unfold wX10_best_102
        refine codeOf_ok hk7 ?_
        refine bestCopy_lp hn60 (fun bl' hbl => ?_) (nK L t k) fu 0 bl (by omega) (by omega) (fun j hj => by omega)
        unfold wX10_best_153
        rw [show (1 : Int32) = nI 1 from rfl, nI_add]
        refine ih f (k + 1) _ _ _ _ _ _ _ _ _ _ _ _ _ _ _ (by omega) (by omega) ?_
        rw [bst_new hfit hbet]
        refine ⟨hk7, hfit, rfl, rfl, rfl, fun i x hx => ?_⟩
        have h2 : i < (RK L t k).1.length := (List.getElem?_eq_some_iff.mp hx).1
        rw [hbl i h2]
        exact hle i x hx
      have old : ∀ j, bst L t k = some j → ¬ (mK L t j < mK L t k ∨ (mK L t j = mK L t k ∧ nK L t j < nK L t k)) → wX10_best_153 fu row Q (wX10_best_23 fu row Q f) best bm (nI k) bf (nI (gd k)) 0 fs' (nI (cnf L t (k + 1))) (nI (nK L t k)) (gi k) (nI (mK L t k)) (nI (gp k)) (nI (gs k)) (nI (gb k)) bl de le' st' := by
        intro j hj hbet
        unfold wX10_best_153
        rw [show (1 : Int32) = nI 1 from rfl, nI_add]
        refine ih f (k + 1) _ _ _ _ _ _ _ _ _ _ _ _ _ _ _ (by omega) (by omega) ?_
        rw [bst_old hfit hj hbet, ← hj]
        exact hb
      cases eo : bst L t k with
      | none =>
        rw [eo] at hb
        exact wifp hb.1 (new (fun j hj => by rw [eo] at hj; cases hj))
      | some j =>
        have hb2 := hb
        rw [eo] at hb2
        obtain ⟨hj, hfj, q1, q2, q3, -⟩ := hb2
        have a1 := mK_le (L := L) (t := t) (k := j)
        have a3 := nK_le (L := L) ht hj
        have new' : (mK L t j < mK L t k ∨ (mK L t j = mK L t k ∧ nK L t j < nK L t k)) → _ := fun hh => new (fun i hi => by rw [eo] at hi; cases hi; exact hh)
        have old' := old j eo
        refine wifn (by rw [q1]; exact cdN_n9 hj) (wif (fun c => ?_) (fun c => ?_))
        · rw [q3, nI_ltI (by omega) (by omega)] at c
          exact new' (Or.inl c)
        · rw [q3, nI_ltI (by omega) (by omega)] at c
          refine wif (fun c2 => ?_) (fun c2 => ?_)
          · rw [q3, nI_eq (by omega) (by omega)] at c2
            refine wif (fun c3 => ?_) (fun c3 => ?_)
            · rw [q2, nI_leI (by omega) (by omega)] at c3
              exact old' (by omega)
            · rw [q2, nI_leI (by omega) (by omega)] at c3
              exact new' (Or.inr (by omega))
          · rw [q3, nI_eq (by omega) (by omega)] at c2
            exact old' (by omega)
    · refine wifn (by decide) (fitsM_use hfi (wifp rfl ?_))
      unfold wX10_best_153
      have e1 : cnf L t k = cnf L t (k + 1) := by rw [cnf, if_neg hno]; rfl
      rw [e1, show (1 : Int32) = nI 1 from rfl, nI_add]
      refine ih f (k + 1) _ _ _ _ _ _ _ _ _ _ _ _ _ _ _ (by omega) (by omega) ?_
      rw [bst_no hno]
      exact hb
theorem best_ok {fu t : Nat} {row L : Nat → Int32} {Q : Int32 → Int32 → Int32 → Int32 → Int32 → Int32 → Int32 → Int32 → Int32 → Int32 → Int32 → Int32 → (Nat → Int32) → (Nat → Int32) → (Nat → Int32) → (Nat → Int32) → Prop} {a1 a2 a3 a4 a5 a6 a7 a8 a9 a10 a11 : Int32} {a12 a13 a14 a15 : Nat → Int32} (hfu : 1000 ≤ fu) (hw : MW row L t)
    (h : ∀ de best bf bm bl b1 b2 b3 b5 b6 b7 b8 b9 b10 le st, DeepOK L t de → BI L t (bst L t 768) best bf bm bl → Q best bf b1 b2 b3 (nI (cnf L t 768)) b5 b6 b7 b8 b9 b10 bl de le st) : wp_X10_best fu row a1 a2 a3 a4 a5 a6 a7 a8 a9 a10 a11 a12 a13 a14 a15 Q := by
  unfold wp_X10_best
  refine layDeep_ok (by omega) hw (fun de hd => ?_)
  exact best_lp hfu hw hd (fun best bf bm bl b1 b2 b3 b5 b6 b7 b8 b9 b10 le st hb => h de best bf bm bl b1 b2 b3 b5 b6 b7 b8 b9 b10 le st hd hb) 768 fu 0 _ _ _ _ _ _ _ _ _ _ _ _ _ _ _ (by omega) (by omega) ⟨rfl, rfl⟩
