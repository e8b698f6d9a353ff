/-! the reference: how deep ticks lie, its frames, its reading -/
def DeepOK (L : Nat → Int32) (t : Nat) (deep : Nat → Int32) : Prop := ∀ i, i < t → deep i = nI (dep L t i)
theorem deep_l2 {fu t : Nat} {row L : Nat → Int32} {Q : (Nat → Int32) → Prop} (hw : MW row L t) : ∀ (k fuel : Nat) (x3 : Int32) (de : Nat → Int32), k < fuel → k ≤ t → (k < t → x3 = nI (AH L t k)) → (∀ i, i < k → de i = nI (bk L i)) → (∀ i, k ≤ i → i < t → de i = nI (dep L t i)) → (∀ de', DeepOK L t de' → Q de') → wX10_layDeep_61 fu row Q fuel (nI t) x3 (nI k - 1) de := by
  have ht := hw.2.1
  intro k
  induction k with
  | zero =>
    intro fuel x3 de hf hk h3 h1 h2 h
    obtain ⟨f, rfl⟩ : ∃ f, fuel = f + 1 := ⟨fuel - 1, by omega⟩
    unfold wX10_layDeep_61
    exact wifp neg1_lt (h de (fun i hi => h2 i (by omega) hi))
  | succ j ih =>
    intro fuel x3 de hf hk h3 h1 h2 h
    obtain ⟨f, rfl⟩ : ∃ f, fuel = f + 1 := ⟨fuel - 1, by omega⟩
    rw [show nI (j + 1) - 1 = nI j from nI_pred j]
    have hb := bk_le L j
    have ha := AH_lt (L := L) (show j < t by omega)
    unfold wX10_layDeep_61
    refine wifn (nI_pos (by omega)) ?_
    have key : ∀ k0 : Int32, k0 = nI (AH L t j) → wX10_layDeep_94 fu row Q (wX10_layDeep_61 fu row Q f) (nI t) (nI j) k0 de := by
      intro k0 hk0
      unfold wX10_layDeep_94
      refine ⟨vin (by omega) (by omega), ?_⟩
      rw [ix_nI (by omega), h1 j (by omega), hk0]
      have fin : ∀ v : Int32, v = nI (dep L t j) → wX10_layDeep_123 fu row Q (wX10_layDeep_61 fu row Q f) (nI t) (nI (AH L t j)) (nI j) (nI j) v de := by
        intro v hv
        unfold wX10_layDeep_123
        refine ⟨vin (by omega) (by omega), ?_⟩
        rw [m1_sub, ix_nI (by omega)]
        refine ih f _ _ (by omega) (by omega) (fun _ => rfl) (fun i hi => ?_) (fun i hi1 hi2 => ?_) h
        · rw [upd_n (by omega)]; exact h1 i (by omega)
        · rw [upd_ite]
          by_cases c : i = j
          · rw [if_pos c, hv, c]
          · rw [if_neg c]; exact h2 i (by omega) hi2
      refine wif (fun c => ⟨vin (by omega) (by omega), ?_⟩) (fun c => ?_) <;> rw [nI_leI (by omega) (by omega)] at c
      · refine fin _ ?_
        unfold dep
        by_cases c2 : AH L t j ≤ bk L j
        · rw [if_pos c2]; congr 1; omega
        · rw [if_neg c2]
      · refine fin _ ?_
        unfold dep
        rw [if_pos (by omega)]
    rw [show (1 : Int32) = nI 1 from rfl, nI_sub (by omega), nI_add]
    refine wif (fun c => ?_) (fun c => ?_) <;> rw [nI_leI (by omega) (by omega)] at c
    · unfold wX10_layDeep_93
      refine key 0 ?_
      rw [AH_eq (by omega), if_neg (by omega)]
      rfl
    · refine ⟨vin (by omega) (by omega), vin (by omega) (by omega), ?_⟩
      rw [ix_nI (by omega), ix_nI (by omega), hw.2.2 j (by omega), hw.2.2 (j + 1) (by omega)]
      refine wif (fun c2 => ?_) (fun c2 => ?_)
      · refine key _ ?_
        rw [h3 (by omega), nI_add, AH_eq (show j < t by omega), if_pos ⟨by omega, c2.symm⟩]
      · unfold wX10_layDeep_93
        refine key 0 ?_
        rw [AH_eq (by omega), if_neg (fun hh => c2 hh.2.symm)]
        rfl
theorem deep_l1 {fu t : Nat} {row L : Nat → Int32} {Q : (Nat → Int32) → Prop} (hfu : 400 ≤ fu) (hw : MW row L t) : ∀ (n fuel k : Nat) (de : Nat → Int32), k + n = t → n < fuel → (∀ i, i < k → de i = nI (bk L i)) → (∀ de', DeepOK L t de' → Q de') → wX10_layDeep_8 fu row Q fuel (nI t) (nI k) de := by
  have ht := hw.2.1
  intro n
  induction n with
  | zero =>
    intro fuel k de hk hf h1 h
    obtain ⟨f, rfl⟩ : ∃ f, fuel = f + 1 := ⟨fuel - 1, by omega⟩
    have e : k = t := by omega
    subst e
    unfold wX10_layDeep_8
    refine wifp (nI_le (by omega) (by omega)) (fun y hy => ?_)
    rw [hy]
    exact deep_l2 hw k fu 0 de (by omega) (by omega) (fun h => by omega) h1 (fun i h3 h4 => by omega) h
  | succ n ih =>
    intro fuel k de hk hf h1 h
    obtain ⟨f, rfl⟩ : ∃ f, fuel = f + 1 := ⟨fuel - 1, by omega⟩
    unfold wX10_layDeep_8
    refine wifn (by rw [nI_leI (by omega) (by omega)]; omega) ?_
    have fin : ∀ v : Int32, v = nI (bk L k) → wX10_layDeep_47 fu row Q (wX10_layDeep_8 fu row Q f) (nI t) (nI k) (nI k) v de := by
      intro v hv
      unfold wX10_layDeep_47
      refine ⟨vin (by omega) (by omega), ?_⟩
      rw [show (1 : Int32) = nI 1 from rfl, nI_add, ix_nI (by omega)]
      refine ih f (k + 1) _ (by omega) (by omega) (fun i hi => ?_) h
      rw [upd_ite]
      by_cases c : i = k
      · rw [if_pos c, hv, c]
      · rw [if_neg c]; exact h1 i (by omega)
    refine wif (fun c => ?_) (fun c => ?_)
    · have c' : k = 0 := by
        have : nI k ≤ nI 0 := c
        rw [nI_leI (by omega) (by omega)] at this
        omega
      unfold wX10_layDeep_46
      exact fin 0 (by rw [c']; rfl)
    · have c' : k ≠ 0 := fun h0 => c (by rw [h0]; decide)
      obtain ⟨j, rfl⟩ : ∃ j, k = j + 1 := ⟨k - 1, by omega⟩
      have hb := bk_le L j
      rw [show nI (j + 1) - (1 : Int32) = nI j from nI_pred j]
      refine ⟨vin (by omega) (by omega), vin (by omega) (by omega), ?_⟩
      rw [ix_nI (by omega), ix_nI (by omega), hw.2.2 j (by omega), hw.2.2 (j + 1) (by omega)]
      refine wif (fun c2 => ⟨vin (by omega) (by omega), ?_⟩) (fun c2 => ?_)
      · refine fin _ ?_
        rw [h1 j (by omega), show (1 : Int32) = nI 1 from rfl, nI_add, bk, if_pos c2]
      · unfold wX10_layDeep_46
        exact fin 0 (by rw [bk, if_neg c2]; rfl)
theorem layDeep_ok {fu t : Nat} {row L de0 : Nat → Int32} {Q : (Nat → Int32) → Prop} (hfu : 400 ≤ fu) (hw : MW row L t) (h : ∀ de, DeepOK L t de → Q de) : wp_X10_layDeep fu row de0 Q := by
  have ht := hw.2.1
  unfold wp_X10_layDeep
  intro y hy
  rw [show ix (360 : Int32) = 360 from rfl, hw.1] at hy
  rw [hy]
  exact deep_l1 hfu hw t fu 0 de0 (by omega) (by omega) (fun i hi => by omega) h
theorem frameBits_ok {fu d p s : Nat} {Q : Int32 → Prop} (hd : d ≤ 8) (hp : p ≤ 2) (hs : s ≤ 2) (h : Q (nI (nb d p s))) : wp_X10_frameBits fu (nI d) (nI p) (nI s) Q := by
  unfold wp_X10_frameBits
  unfold nb at h
  refine wif (fun c => ?_) (fun c => ?_)
  · have c' : p = 0 := by
      have : nI p ≤ nI 0 := c
      rw [nI_leI (by omega) (by omega)] at this
      omega
    rw [if_pos c'] at h
    simp (disch := omega) only [lit_nI, nI_add]
    exact h
  · have c' : p ≠ 0 := fun h0 => c (by rw [h0]; decide)
    rw [if_neg c'] at h
    simp (disch := omega) only [lit_nI, nI_add]
    exact h
def pe (d p : Nat) : Nat := d + (if p = 0 then 0 else 1)
theorem cn_pe {L : Nat → Int32} {b d p : Nat} {idle : Int32} {i : Nat} : ∀ k, k ≤ d + 1 → cn L b (pe d p) idle i k = cn L b d idle i k := by
  intro k
  induction k with
  | zero => intro _; rfl
  | succ k ih =>
    intro h
    rw [cn, cn, ih (by omega)]
    have e : (1 ≤ k ∧ k ≤ pe d p ∧ L (tkb b i k) = idle) ↔ (1 ≤ k ∧ k ≤ d ∧ L (tkb b i k) = idle) := by
      unfold pe
      constructor
      · intro hh; exact ⟨hh.1, by omega, hh.2.2⟩
      · intro hh; exact ⟨hh.1, by omega, hh.2.2⟩
    by_cases c : 1 ≤ k ∧ k ≤ d ∧ L (tkb b i k) = idle
    · rw [if_pos c, if_pos (e.mpr c)]
    · rw [if_neg c, if_neg (fun hh => c (e.mp hh))]
theorem failsBy_ok {fu t b d p i k : Nat} {L : Nat → Int32} {idle o1 : Int32} {Q : Int32 → Prop} (hd : d ≤ 8) (hp : p ≤ 2) (hk : k ≤ 12) (hin : tkb b i k < t) (ho : o1 = if L (tkb b i k) = idle then 1 else 0) (h : Q (nI (bc L t b d p idle i k))) : wp_X10_failsBy fu (nI d) (nI p) (nI k) o1 (nI (cn L b (pe d p) idle i (k + 1) % 2)) Q := by
  unfold wp_X10_failsBy
  unfold bc at h
  rw [if_pos hin] at h
  refine wif (fun c => ?_) (fun c => ?_)
  · have c' : k = 0 := by
      have : nI k = nI 0 := c
      rwa [nI_eq (by omega) (by omega)] at this
    rw [if_pos c'] at h
    by_cases e : L (tkb b i k) = idle
    · rw [if_pos e] at ho h
      exact wifn (by rw [ho]; decide) h
    · rw [if_neg e] at ho h
      exact wifp ho h
  · have c' : k ≠ 0 := fun h0 => c (by rw [h0]; rfl)
    rw [if_neg c'] at h
    refine wif (fun c2 => ?_) (fun c2 => ?_) <;> rw [nI_ltI (by omega) (by omega)] at c2
    · rw [if_neg (by omega)] at h
      have stop : (¬ (k = d + 1 ∧ p ≠ 0)) → wX10_failsBy_64 fu (nI d) (nI p) (nI k) o1 (nI (cn L b (pe d p) idle i (k + 1) % 2)) Q := by
        intro hn
        rw [if_neg hn] at h
        unfold wX10_failsBy_64
        by_cases e : L (tkb b i k) = idle
        · rw [if_pos e] at ho h
          exact wifn (by rw [ho]; decide) h
        · rw [if_neg e] at ho h
          exact wifp ho h
      refine wif (fun c3 => stop (fun hh => hh.2 ?_)) (fun c3 => ?_)
      · have : nI p ≤ nI 0 := c3
        rw [nI_leI (by omega) (by omega)] at this
        omega
      · have c3' : p ≠ 0 := fun h0 => c3 (by rw [h0]; decide)
        refine wif (fun c4 => ?_) (fun c4 => stop (fun hh => c4 ?_))
        · have c4' : k = d + 1 := by
            have : nI k = nI d + nI 1 := c4
            rwa [nI_add, nI_eq (by omega) (by omega)] at this
          rw [if_pos ⟨c4', c3'⟩] at h
          have e1 : cn L b (pe d p) idle i (k + 1) = cn L b d idle i k + (if L (tkb b i k) = idle then 1 else 0) := by
            rw [cn, cn_pe k (by omega)]
            by_cases e : L (tkb b i k) = idle
            · rw [if_pos e, if_pos ⟨by omega, by unfold pe; rw [if_neg c3']; omega, e⟩]
            · rw [if_neg e, if_neg (fun hh => e hh.2.2)]
          rw [e1]
          have hm : (cn L b d idle i k + (if L (tkb b i k) = idle then 1 else 0)) % 2 < 2 := Nat.mod_lt _ (by decide)
          have fin : ∀ q : Nat, q = p - 1 → wX10_failsBy_55 fu (nI d) (nI p) (nI k) o1 (nI ((cn L b d idle i k + (if L (tkb b i k) = idle then 1 else 0)) % 2)) Q (nI ((cn L b d idle i k + (if L (tkb b i k) = idle then 1 else 0)) % 2)) (nI q) := by
            intro q hq
            unfold wX10_failsBy_55
            refine wif (fun c5 => ?_) (fun c5 => ?_) <;> rw [nI_eq (by omega) (by omega)] at c5
            · rwa [if_pos (by omega)] at h
            · rwa [if_neg (by omega)] at h
          refine wif (fun c5 => ?_) (fun c5 => ?_)
          · have c5' : p = 2 := by
              have : nI p = nI 2 := c5
              rwa [nI_eq (by omega) (by omega)] at this
            exact fin 1 (by omega)
          · have c5' : p ≠ 2 := fun h0 => c5 (by rw [h0]; rfl)
            exact fin 0 (by omega)
        · rw [hh.1, ← nI_add]; rfl
    · rw [if_pos (by omega)] at h
      exact h
def mgD (deep : Nat → Int32) (b i : Nat) (m0 : Int32) : Nat → Int32
  | 0 => m0
  | k + 1 => if mgD deep b i m0 k ≤ deep (tkb b i k) then mgD deep b i m0 k else deep (tkb b i k)
theorem frameAt_lp {fu t b d p s i n0 : Nat} {row L deep le st : Nat → Int32} {idle m0 : Int32} {Q : Int32 → Int32 → Int32 → (Nat → Int32) → (Nat → Int32) → Prop} (hw : MW row L t) (hg : GOK b d p s idle) (hi : i < 360) (hn0 : n0 < 60)
    (h0 : fc L t b d p idle i (nb d p s) = 0 → Q 0 (nI (n0 + 1)) (mgD deep b i m0 (nb d p s)) (upd le n0 (nI (lt L b d idle i (nb d p s)))) (upd st n0 (nI i))) (h1 : fc L t b d p idle i (nb d p s) ≠ 0 → Q (nI (fc L t b d p idle i (nb d p s))) (nI n0) m0 le st) :
    ∀ (n fuel k : Nat), k + n = nb d p s → n < fuel → fc L t b d p idle i k = 0 → wX10_frameAt_14 fu (nI d) idle (nI p) (nI s) (nI b) deep row (nI i) Q fuel (nI (lt L b d idle i k)) (nI (cn L b (pe d p) idle i k % 2)) (mgD deep b i m0 k) (nI k) (nI n0) m0 le st := by
  obtain ⟨hb1, hb2, hd1, hd2, hp, hs1, hs2, hid⟩ := id hg
  have hnb := nb_le hg
  have ht := hw.2.1
  intro n
  induction n with
  | zero =>
    intro fuel k hk hf hz
    obtain ⟨f, rfl⟩ : ∃ f, fuel = f + 1 := ⟨fuel - 1, by omega⟩
    have e : k = nb d p s := by omega
    subst e
    unfold wX10_frameAt_14
    refine frameBits_ok hd2 hp hs2 (wifp (nI_le (by omega) (by omega)) ⟨vin (by omega) (by omega), vin (by omega) (by omega), ?_⟩)
    rw [ix_nI (by omega), show (1 : Int32) = nI 1 from rfl, nI_add]
    exact h0 hz
  | succ n ih =>
    intro fuel k hk hf hz
    obtain ⟨f, rfl⟩ : ∃ f, fuel = f + 1 := ⟨fuel - 1, by omega⟩
    have htk := tkb_le (b := b) (i := i) (k := k) hb2 (by omega)
    have hcm : cn L b (pe d p) idle i k % 2 < 2 := Nat.mod_lt _ (by decide)
    have hcm' : cn L b (pe d p) idle i (k + 1) % 2 < 2 := Nat.mod_lt _ (by decide)
    unfold wX10_frameAt_14
    refine frameBits_ok hd2 hp hs2 (wifn (by rw [nI_leI (by omega) (by omega)]; omega) (fun y hy => ?_))
    have ey : y = nI (tkb b i k) := by
      rw [hy]
      unfold tkb
      rw [show (2 : Int32) = nI 2 from rfl, nI_mul, nI_div (by omega) (by omega) (by omega), nI_add, nI_add]
    rw [ey]
    have fail : bc L t b d p idle i k ≠ 0 → Q (nI (bc L t b d p idle i k)) (nI n0) m0 le st := by
      intro hne
      have e1 : fc L t b d p idle i (k + 1) = bc L t b d p idle i k := by rw [fc, if_pos hz]
      have e2 := fc_stay (nb d p s) (show k + 1 ≤ nb d p s by omega) (by rw [e1]; exact hne)
      rw [e1] at e2
      have := h1 (by rw [e2]; exact hne)
      rwa [e2] at this
    refine isTick_ok hw (fun j hj ej => wifn (by decide) ⟨vin (by rw [nI_eq (by omega) (by omega)] at ej; omega) (by omega), ?_⟩) (fun hout => wifp rfl ?_)
    · have hin : tkb b i k < t := by
        rw [nI_eq (by omega) (by omega)] at ej
        omega
      rw [ix_nI (by omega), hw.2.2 _ hin]
      have hb4 := bc_le (L := L) (t := t) (b := b) (d := d) (p := p) (idle := idle) (i := i) (k := k)
      -- behind odd
      have go : ∀ o1 : Int32, (o1 = if L (tkb b i k) = idle then 1 else 0) → wX10_frameAt_117 fu (nI d) idle (nI p) (nI s) (nI b) deep row (nI i) Q (wX10_frameAt_14 fu (nI d) idle (nI p) (nI s) (nI b) deep row (nI i) Q f) (nI (lt L b d idle i k)) (mgD deep b i m0 k) (nI k) (nI (tkb b i k)) o1 (nI (cn L b (pe d p) idle i (k + 1) % 2)) (nI n0) m0 le st := by
        intro o1 ho
        unfold wX10_frameAt_117
        refine failsBy_ok hd2 hp (by omega) hin ho ?_
        refine wif (fun c => ?_) (fun c => fail (fun h => c (by rw [h]; decide)))
        have c' : bc L t b d p idle i k = 0 := by
          have : nI (bc L t b d p idle i k) ≤ nI 0 := c
          rw [nI_leI (by omega) (by omega)] at this
          omega
        have hz' : fc L t b d p idle i (k + 1) = 0 := by rw [fc, if_pos hz, c']
        have tail : ∀ v : Int32, (nI (lt L b d idle i k) ||| v) = nI (lt L b d idle i (k + 1)) → wX10_frameAt_169 fu (nI d) idle (nI p) (nI s) (nI b) deep row (nI i) Q (wX10_frameAt_14 fu (nI d) idle (nI p) (nI s) (nI b) deep row (nI i) Q f) (nI (cn L b (pe d p) idle i (k + 1) % 2)) (mgD deep b i m0 k) (nI k) (nI (tkb b i k)) (nI (lt L b d idle i k)) v (nI n0) m0 le st := by
          intro v hv
          unfold wX10_frameAt_169
          intro y2 hy2
          rw [hv] at hy2
          rw [hy2]
          refine ⟨vin (by omega) (by omega), ?_⟩
          rw [ix_nI (by omega)]
          have nxt : ∀ q : Int32, q = mgD deep b i m0 (k + 1) → wX10_frameAt_195 fu (nI d) idle (nI p) (nI s) (nI b) deep row (nI i) Q (wX10_frameAt_14 fu (nI d) idle (nI p) (nI s) (nI b) deep row (nI i) Q f) (nI (lt L b d idle i (k + 1))) (nI (cn L b (pe d p) idle i (k + 1) % 2)) (nI k) q (nI n0) m0 le st := by
            intro q hq
            unfold wX10_frameAt_195
            rw [hq, show (1 : Int32) = nI 1 from rfl, nI_add]
            exact ih f (k + 1) (by omega) (by omega) hz'
          refine wif (fun c2 => nxt _ ?_) (fun c2 => ⟨vin (by omega) (by omega), nxt _ ?_⟩)
          · rw [mgD, if_pos c2]
          · rw [mgD, if_neg c2]
        have noadd : ¬ (1 ≤ k ∧ k ≤ d ∧ L (tkb b i k) = idle) → wX10_frameAt_168 fu (nI d) idle (nI p) (nI s) (nI b) deep row (nI i) Q (wX10_frameAt_14 fu (nI d) idle (nI p) (nI s) (nI b) deep row (nI i) Q f) (nI (cn L b (pe d p) idle i (k + 1) % 2)) (mgD deep b i m0 k) (nI k) (nI (tkb b i k)) (nI (lt L b d idle i k)) (nI n0) m0 le st := by
          intro hno
          unfold wX10_frameAt_168
          refine tail 0 ?_
          rw [show (0 : Int32) = nI 0 from rfl, nI_or, Nat.or_zero, lt, if_neg hno]
          rfl
        refine wif (fun c2 => noadd (fun hh => ?_)) (fun c2 => ?_)
        · rw [if_pos hh.2.2] at ho
          rw [ho] at c2
          exact absurd c2 (by decide)
        · have e : L (tkb b i k) = idle := by
            by_cases e : L (tkb b i k) = idle
            · exact e
            · rw [if_neg e] at ho; exact absurd ho c2
          refine wif (fun c3 => noadd (fun hh => ?_)) (fun c3 => ?_)
          · have : nI k ≤ nI 0 := c3
            rw [nI_leI (by omega) (by omega)] at this
            omega
          · have c3' : k ≠ 0 := fun h0 => c3 (by rw [h0]; decide)
            refine wif (fun c4 => noadd (fun hh => ?_)) (fun c4 => ?_) <;> rw [nI_ltI (by omega) (by omega)] at c4
            · omega
            · refine tail _ ?_
              rw [show nI k - (1 : Int32) = nI (k - 1) from by rw [show (1 : Int32) = nI 1 from rfl, nI_sub (by omega)]]
              exact lt_step (by omega) (by omega) hd2 e
      -- odd
      have same : ∀ o1 : Int32, (o1 = if L (tkb b i k) = idle then 1 else 0) → ¬ (1 ≤ k ∧ k ≤ pe d p ∧ L (tkb b i k) = idle) → wX10_frameAt_108 fu (nI d) idle (nI p) (nI s) (nI b) deep row (nI i) Q (wX10_frameAt_14 fu (nI d) idle (nI p) (nI s) (nI b) deep row (nI i) Q f) (nI (lt L b d idle i k)) (mgD deep b i m0 k) (nI k) (nI (tkb b i k)) o1 (nI (cn L b (pe d p) idle i k % 2)) (nI n0) m0 le st := by
        intro o1 ho hno
        have e1 : cn L b (pe d p) idle i (k + 1) = cn L b (pe d p) idle i k := by rw [cn, if_neg hno]; rfl
        have g2 := go o1 ho
        rw [e1] at g2
        unfold wX10_frameAt_108 wX10_frameAt_109
        refine wif (fun c => ?_) (fun c => ?_)
        · have c' : cn L b (pe d p) idle i k % 2 = 0 := by
            have : nI (cn L b (pe d p) idle i k % 2) = nI 0 := c
            rwa [nI_eq (by omega) (by omega)] at this
          rw [c'] at g2
          exact g2
        · have c' : cn L b (pe d p) idle i k % 2 ≠ 0 := fun h0 => c (by rw [h0]; rfl)
          rw [show cn L b (pe d p) idle i k % 2 = 1 by omega] at g2
          exact g2
      refine wif (fun e => ?_) (fun e => ?_)
      · unfold wX10_frameAt_68
        refine wifn (by decide) ?_
        refine wif (fun c => same 1 (by rw [if_pos e]) (fun hh => ?_)) (fun c => ?_)
        · have : nI k ≤ nI 0 := c
          rw [nI_leI (by omega) (by omega)] at this
          omega
        · have c' : k ≠ 0 := fun h0 => c (by rw [h0]; decide)
          have fin : ∀ q : Nat, q = (if p = 0 then 0 else 1) → wX10_frameAt_100 fu (nI d) idle (nI p) (nI s) (nI b) deep row (nI i) Q (wX10_frameAt_14 fu (nI d) idle (nI p) (nI s) (nI b) deep row (nI i) Q f) (nI (lt L b d idle i k)) (mgD deep b i m0 k) (nI k) (nI (tkb b i k)) 1 (nI (cn L b (pe d p) idle i k % 2)) (nI k) (nI d) (nI q) (nI n0) m0 le st := by
            intro q hq
            have hq1 : q ≤ 1 := by rw [hq]; split <;> omega
            have hpe : pe d p = d + q := by unfold pe; rw [hq]
            unfold wX10_frameAt_100
            rw [nI_add]
            refine wif (fun c2 => ?_) (fun c2 => ?_) <;> rw [nI_ltI (by omega) (by omega)] at c2
            · exact same 1 (by rw [if_pos e]) (fun hh => by have := hh.2.1; omega)
            · have e1 : cn L b (pe d p) idle i (k + 1) = cn L b (pe d p) idle i k + 1 := by rw [cn, if_pos ⟨by omega, by omega, e⟩]
              have g2 := go 1 (by rw [if_pos e])
              rw [e1] at g2
              unfold wX10_frameAt_109
              refine wif (fun c3 => ?_) (fun c3 => ?_)
              · have c3' : cn L b (pe d p) idle i k % 2 = 1 := by
                  have : nI (cn L b (pe d p) idle i k % 2) = nI 1 := c3
                  rwa [nI_eq (by omega) (by omega)] at this
                rw [show (cn L b (pe d p) idle i k + 1) % 2 = 0 by omega] at g2
                exact g2
              · have c3' : cn L b (pe d p) idle i k % 2 ≠ 1 := fun h0 => c3 (by rw [h0]; rfl)
                rw [show (cn L b (pe d p) idle i k + 1) % 2 = 1 by omega] at g2
                exact g2
          refine wif (fun c2 => fin 0 ?_) (fun c2 => fin 1 ?_)
          · have : nI p ≤ nI 0 := c2
            rw [nI_leI (by omega) (by omega)] at this
            rw [if_pos (by omega)]
          · have : p ≠ 0 := fun h0 => c2 (by rw [h0]; decide)
            rw [if_neg this]
      · unfold wX10_frameAt_68
        refine wifp rfl ?_
        exact same 0 (by rw [if_neg e]) (fun hh => e hh.2.2)
    · have hout' : ¬ tkb b i k < t := by
        intro hlt
        rcases hout with h | h
        · exact nI_pos (by omega) h
        · rw [nI_leI (by omega) (by omega)] at h; omega
      have e4 : bc L t b d p idle i k = 4 := by unfold bc; rw [if_neg hout']
      have := fail (by rw [e4]; decide)
      rwa [e4] at this
theorem frameAt_ok {fu t b d p s i n0 : Nat} {row L deep le st : Nat → Int32} {idle m0 : Int32} {Q : Int32 → Int32 → Int32 → (Nat → Int32) → (Nat → Int32) → Prop} (hfu : 400 ≤ fu) (hw : MW row L t) (hg : GOK b d p s idle) (hi : i < 360) (hn0 : n0 < 60)
    (h0 : fc L t b d p idle i (nb d p s) = 0 → Q 0 (nI (n0 + 1)) (mgD deep b i m0 (nb d p s)) (upd le n0 (nI (LTR L b d p s idle i))) (upd st n0 (nI i))) (h1 : fc L t b d p idle i (nb d p s) ≠ 0 → Q (nI (fc L t b d p idle i (nb d p s))) (nI n0) m0 le st) : wp_X10_frameAt fu (nI d) idle (nI p) (nI s) (nI b) deep row (nI i) (nI n0) m0 le st Q := by
  have hnb := nb_le hg
  unfold wp_X10_frameAt
  exact frameAt_lp hw hg hi hn0 h0 h1 (nb d p s) fu 0 (by omega) (by omega) rfl
def mglD (deep : Nat → Int32) (b d p s : Nat) (m : Int32) (fs : List Nat) : Int32 := fs.foldl (fun m i => mgD deep b i m (nb d p s)) m
theorem mgD_ok {L deep : Nat → Int32} {t b i m0 : Nat} (hd : DeepOK L t deep) (ht : t ≤ 360) (hm : m0 ≤ 360) : ∀ k, (∀ j, j < k → tkb b i j < t) → mgD deep b i (nI m0) k = nI (mgf L t b i m0 k) := by
  intro k
  induction k with
  | zero => intro _; rfl
  | succ k ih =>
    intro h
    have h1 := h k (by omega)
    have h2 := dep_lt (L := L) h1
    have h3 := mgf_le (L := L) (t := t) (b := b) (i := i) (m0 := m0) k
    rw [mgD, mgf, ih (fun j hj => h j (by omega)), hd _ h1]
    by_cases c : dep L t (tkb b i k) < mgf L t b i m0 k
    · rw [if_pos c, if_neg (by rw [nI_leI (by omega) (by omega)]; omega)]
    · rw [if_neg c, if_pos (nI_le (by omega) (by omega))]
theorem mglD_ok {L deep : Nat → Int32} {t b d p s : Nat} {idle : Int32} (hd : DeepOK L t deep) (ht : t ≤ 360) : ∀ (fs : List Nat) (m0 : Nat), m0 ≤ 360 → (∀ x ∈ fs, fc L t b d p idle x (nb d p s) = 0) → mglD deep b d p s (nI m0) fs = nI (mgl L t b d p s m0 fs) := by
  intro fs
  induction fs with
  | nil => intro m0 _ _; rfl
  | cons i fs ih =>
    intro m0 hm h
    have hf := h i List.mem_cons_self
    have e := mgD_ok (b := b) (i := i) hd ht hm (nb d p s) (fun j hj => fc_in hj hf)
    have e2 := ih (mgf L t b i m0 (nb d p s)) (Nat.le_trans (mgf_le _) hm) (fun x hx => h x (List.mem_cons_of_mem _ hx))
    unfold mglD mgl
    unfold mglD mgl at e2
    rw [List.foldl_cons, List.foldl_cons, e]
    exact e2
theorem readM_lp {fu t b d p s : Nat} {row L deep : Nat → Int32} {idle : Int32} {Q : Int32 → Int32 → Int32 → Int32 → (Nat → Int32) → (Nat → Int32) → Prop} (hfu : 400 ≤ fu) (hw : MW row L t) (hg : GOK b d p s idle) :
    ∀ (m fuel i n : Nat) (le st : Nat → Int32) (pre : List Nat), t - i ≤ m → m + 2 < fuel → 1 ≤ i → i < 2 ^ 20 → 6 * n ≤ i → n = pre.length → LSt L b d p s idle le st pre →
      (∀ le' st', LSt L b d p s idle le' st' (pre ++ (RD L t b d p s idle i).1) → ((RD L t b d p s idle i).2.1 = 0 → Q 0 (-9) (nI (pre ++ (RD L t b d p s idle i).1).length) (mglD deep b d p s 360 (pre ++ (RD L t b d p s idle i).1)) le' st') ∧ ((RD L t b d p s idle i).2.1 ≠ 0 → ∀ mm, Q (nI (RD L t b d p s idle i).2.1) (nI (RD L t b d p s idle i).2.2) (nI (pre ++ (RD L t b d p s idle i).1).length) mm le' st')) →
      wX10_read_25 fu (nI d) idle (nI p) (nI s) (nI b) deep row Q fuel (nI i) 0 (-9) (nI n) (mglD deep b d p s 360 pre) le st := by
  have ht := hw.2.1
  have hnb := nb_le hg
  intro m
  induction m with
  | zero =>
    intro fuel i n le st pre h1 h2 h3 h3' h4 h5 hls hq
    obtain ⟨f, rfl⟩ : ∃ f, fuel = f + 1 := ⟨fuel - 1, by omega⟩
    rw [RD_end (by omega), List.append_nil] at hq
    unfold wX10_read_25
    rw [show ix (360 : Int32) = 360 from rfl, hw.1]
    refine wifp (nI_le (by omega) (by omega)) ?_
    rw [h5]
    exact (hq le st hls).1 rfl
  | succ m ih =>
    intro fuel i n le st pre h1 h2 h3 h3' h4 h5 hls hq
    by_cases hit : i < t
    · obtain ⟨f, rfl⟩ : ∃ f, fuel = f + 1 := ⟨fuel - 1, by omega⟩
      unfold wX10_read_25
      rw [show ix (360 : Int32) = 360 from rfl, hw.1]
      refine wifn (by rw [nI_leI (by omega) (by omega)]; omega) (wifp rfl ⟨vin (by omega) (by omega), ?_⟩)
      have skip : ¬ (L i ≠ idle ∧ L (i - 1) = idle) → wX10_read_114 fu (nI d) idle (nI p) (nI s) (nI b) deep row Q (wX10_read_25 fu (nI d) idle (nI p) (nI s) (nI b) deep row Q f) (nI i) 0 (-9) (nI n) (mglD deep b d p s 360 pre) le st := by
        intro hno
        rw [RD_no hit hno] at hq
        unfold wX10_read_114
        rw [show (1 : Int32) = nI 1 from rfl, nI_add]
        exact ih f (i + 1) n le st pre (by omega) (by omega) (by omega) (by omega) (by omega) h5 hls hq
      rw [ix_nI (by omega), hw.2.2 i hit]
      refine wif (fun c => skip (fun hh => hh.1 c)) (fun c => ?_)
      rw [show (1 : Int32) = nI 1 from rfl, nI_sub (by omega)]
      refine ⟨vin (by omega) (by omega), ?_⟩
      rw [ix_nI (by omega), hw.2.2 (i - 1) (by omega)]
      refine wif (fun c2 => ?_) (fun c2 => skip (fun hh => c2 hh.2))
      refine frameAt_ok hfu hw hg (by omega) (by omega) (fun hz => ?_) (fun hz => ?_)
      · refine wifp (by decide) ?_
        unfold wX10_read_87
        refine frameBits_ok hg.2.2.2.1 hg.2.2.2.2.1 hg.2.2.2.2.2.2.1 (fun y hy => ?_)
        have hin := fc_in (show nb d p s - 1 < nb d p s by omega) hz
        have hk := tkb_gt hg i
        have ey : y = nI (tkb b i (nb d p s - 1)) := by
          rw [hy, show (2 : Int32) = nI 2 from rfl, show (1 : Int32) = nI 1 from rfl, nI_sub (by omega), nI_mul, nI_div (by have := hg.2.1; omega) (by omega) (by omega), nI_add, nI_add]
          unfold tkb
          congr 1
          omega
        rw [ey]
        rw [RD_ok hg hit ⟨c, c2⟩ hz] at hq
        have e4 : mgD deep b i (mglD deep b d p s 360 pre) (nb d p s) = mglD deep b d p s 360 (pre ++ [i]) := by
          unfold mglD
          rw [List.foldl_append]
          rfl
        rw [e4]
        refine ih f _ (n + 1) _ _ (pre ++ [i]) (by omega) (by omega) (by omega) (by omega) (by omega) (by rw [List.length_append, h5]; rfl) (LSt_push hls h5) ?_
        rw [show pre ++ [i] ++ (RD L t b d p s idle (tkb b i (nb d p s - 1))).1 = pre ++ i :: (RD L t b d p s idle (tkb b i (nb d p s - 1))).1 by rw [List.append_assoc]; rfl]
        exact hq
      · have hf4 := fc_le (L := L) (t := t) (b := b) (d := d) (p := p) (idle := idle) (i := i) (nb d p s)
        refine wifn (by
          intro hle
          have : nI (fc L t b d p idle i (nb d p s)) ≤ nI 0 := hle
          rw [nI_leI (by omega) (by omega)] at this
          omega) ?_
        unfold wX10_read_87
        refine frameBits_ok hg.2.2.2.1 hg.2.2.2.2.1 hg.2.2.2.2.2.2.1 (fun y hy => ?_)
        obtain ⟨f2, rfl⟩ : ∃ f2, f = f2 + 1 := ⟨f - 1, by omega⟩
        rw [RD_fail hit ⟨c, c2⟩ hz, List.append_nil] at hq
        have fin := (hq le st hls).2 hz (mglD deep b d p s 360 pre)
        rw [← h5] at fin
        unfold wX10_read_25
        refine wif (fun _ => fin) (fun _ => wifn (fun h0 => ?_) fin)
        have : nI (fc L t b d p idle i (nb d p s)) = nI 0 := h0
        rw [nI_eq (by omega) (by omega)] at this
        exact hz this
    · obtain ⟨f, rfl⟩ : ∃ f, fuel = f + 1 := ⟨fuel - 1, by omega⟩
      rw [RD_end (by omega), List.append_nil] at hq
      unfold wX10_read_25
      rw [show ix (360 : Int32) = 360 from rfl, hw.1]
      refine wifp (nI_le (by omega) (by omega)) ?_
      rw [h5]
      exact (hq le st hls).1 rfl
theorem readM_ok {fu t b d p s : Nat} {row L deep le0 st0 : Nat → Int32} {idle a1 a2 a3 a4 : Int32} {Q : Int32 → Int32 → Int32 → Int32 → (Nat → Int32) → (Nat → Int32) → Prop} (hfu : 400 ≤ fu) (hw : MW row L t) (hg : GOK b d p s idle)
    (h : ∀ le' st', LSt L b d p s idle le' st' (RD L t b d p s idle 1).1 → ((RD L t b d p s idle 1).2.1 = 0 → Q 0 (-9) (nI (RD L t b d p s idle 1).1.length) (mglD deep b d p s 360 (RD L t b d p s idle 1).1) le' st') ∧ ((RD L t b d p s idle 1).2.1 ≠ 0 → ∀ mm, Q (nI (RD L t b d p s idle 1).2.1) (nI (RD L t b d p s idle 1).2.2) (nI (RD L t b d p s idle 1).1.length) mm le' st')) : wp_X10_read fu (nI d) idle (nI p) (nI s) (nI b) deep row a1 a2 a3 a4 le0 st0 Q := by
  have ht := hw.2.1
  unfold wp_X10_read
  exact readM_lp hfu hw hg t fu 1 0 le0 st0 [] (by omega) (by omega) (by omega) (by omega) (by omega) rfl (fun j x hx => by simp at hx) h
