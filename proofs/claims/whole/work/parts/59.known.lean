/-! what is known, which guesses are left -/
def KN (n : Nat) (ki kv : Nat → Nat) (sz : Int32) (nu va : Nat → Int32) : Prop := sz = nI n ∧ n ≤ 5 ∧ ∀ q, q < n → nu q = nI (ki q) ∧ va q = nI (kv q) ∧ ki q ≤ 9 ∧ kv q ≤ 255
def rfm (ki kv : Nat → Nat) (us : List Nat) : Nat → Nat
  | 0 => 0
  | q + 1 => rfm ki kv us q + (if us[ki q]? = some (kv q) then 0 else 2 ^ q)
theorem rfm_lt (ki kv : Nat → Nat) (us : List Nat) : ∀ q, rfm ki kv us q < 2 ^ q := by
  intro q
  induction q with
  | zero => exact Nat.zero_lt_one
  | succ q ih =>
    rw [rfm, Nat.pow_succ]
    split <;> omega
theorem letterAt_ok2 {fu i : Nat} {le : Nat → Int32} {us : List Nat} {Q : Int32 → Prop} (hu : LH le us) (su : Sm us) (hi : i < 2 ^ 31) (h1 : ∀ v, v < 256 → us[i]? = some v → Q (nI v)) (h0 : us[i]? = none → Q (-9)) : wp_X4_letterAt fu (nI us.length) le (nI i) Q := by
  have a := su.1
  unfold wp_X4_letterAt
  refine wifn (nI_pos hi) (wif (fun c => ?_) (fun c => ?_)) <;> rw [nI_leI (by omega) hi] at c
  · exact h0 (List.getElem?_eq_none (by omega))
  · have hl : i < us.length := by omega
    refine ⟨vin (by omega) (by omega), ?_⟩
    rw [ix_nI (by omega), LH_at hu hl]
    exact h1 _ (su.2 _ (List.getElem_mem hl)) (List.getElem?_eq_getElem hl)
theorem refuters_lp {fu n : Nat} {ki kv : Nat → Nat} {nu va le : Nat → Int32} {us : List Nat} {Q : Int32 → Prop} (hk : KN n ki kv (nI n) nu va) (hu : LH le us) (su : Sm us) (h : Q (nI (rfm ki kv us n))) : ∀ (j fuel q : Nat), q + j = n → j < fuel → wX2_refuters_4 fu (nI n) nu va (nI us.length) le Q fuel (nI (rfm ki kv us q)) (nI q) := by
  obtain ⟨-, hn5, hk⟩ := hk
  intro j
  induction j with
  | zero =>
    intro fuel q hq hf
    obtain ⟨f, rfl⟩ : ∃ f, fuel = f + 1 := ⟨fuel - 1, by omega⟩
    have e : q = n := by omega
    subst e
    unfold wX2_refuters_4
    exact wifp (nI_le (by omega) (by omega)) h
  | succ j ih =>
    intro fuel q hq hf
    obtain ⟨f, rfl⟩ : ∃ f, fuel = f + 1 := ⟨fuel - 1, by omega⟩
    obtain ⟨e1, e2, e3, e4⟩ := hk q (by omega)
    have hlt := rfm_lt ki kv us q
    unfold wX2_refuters_4
    refine wifn (by rw [nI_leI (by omega) (by omega)]; omega) (wifn (by simp (disch := omega) only [lit_nI, nI_leI]; omega) ⟨vin (by omega) (by omega), ?_⟩)
    rw [ix_nI (by omega), e1, e2]
    have same : us[ki q]? = some (kv q) → wX2_refuters_42 fu (nI n) nu va (nI us.length) le Q (wX2_refuters_4 fu (nI n) nu va (nI us.length) le Q f) (nI (rfm ki kv us q)) (nI q) := by
      intro hh
      unfold wX2_refuters_42
      have e5 : rfm ki kv us q = rfm ki kv us (q + 1) := by rw [rfm, if_pos hh]; rfl
      rw [show (1 : Int32) = nI 1 from rfl, nI_add, e5]
      exact ih f (q + 1) (by omega) (by omega)
    have other : ¬ us[ki q]? = some (kv q) → ∀ y : Int32, y = nI (rfm ki kv us q) ||| shl (1 : Int32) (nI q) → wX2_refuters_42 fu (nI n) nu va (nI us.length) le Q (wX2_refuters_4 fu (nI n) nu va (nI us.length) le Q f) y (nI q) := by
      intro hh y hy
      unfold wX2_refuters_42
      have e5 : rfm ki kv us q + 2 ^ q = rfm ki kv us (q + 1) := by rw [rfm, if_neg hh]
      rw [hy, shl1 (by omega), nI_or, or_pow hlt, e5, show (1 : Int32) = nI 1 from rfl, nI_add]
      exact ih f (q + 1) (by omega) (by omega)
    refine letterAt_ok2 hu su (by omega) (fun v hv hs => ⟨vin (by omega) (by omega), ?_⟩) (fun hs => ⟨vin (by omega) (by omega), ?_⟩)
    · refine wif (fun c => ?_) (fun c => ?_) <;> rw [nI_eq (by omega) (by omega)] at c
      · exact same (by rw [hs, c])
      · exact other (by rw [hs]; intro hh; exact c (Option.some.inj hh))
    · refine wifn (fun hc => ?_) (other (by rw [hs]; intro hh; cases hh))
      have : nI (kv q) = (-9 : Int32) := hc.symm
      simp (disch := omega) only [lit_nI, nI_n9] at this
theorem refuters_ok {fu n : Nat} {ki kv : Nat → Nat} {nu va le : Nat → Int32} {us : List Nat} {Q : Int32 → Prop} (hfu : 400 ≤ fu) (hk : KN n ki kv (nI n) nu va) (hu : LH le us) (su : Sm us) (h : Q (nI (rfm ki kv us n))) : wp_X2_refuters fu (nI n) nu va (nI us.length) le Q :=
  refuters_lp hk hu su h n fu 0 (by omega) (by have := hk.2.1; omega)
theorem shr_and {m q : Nat} (hm : m < 2 ^ 31) (hq : q < 8) : (shr (nI m) (nI q)) &&& (1 : Int32) = nI (m / 2 ^ q % 2) := by
  have e : nI m >>> (nI q &&& 31) = nI (m / 2 ^ q) := by
    refine pk_shrN hm _ q ?_
    rcases (show q = 0 ∨ q = 1 ∨ q = 2 ∨ q = 3 ∨ q = 4 ∨ q = 5 ∨ q = 6 ∨ q = 7 by omega) with rfl | rfl | rfl | rfl | rfl | rfl | rfl | rfl <;> decide
  unfold shr
  rw [e]
  have h2 : m / 2 ^ q ≤ m := Nat.div_le_self _ _
  exact pk_andN (by omega) 1 (by decide)
def so (ki kv : Nat → Nat) (us : List Nat) (m : Nat) : Nat → Bool
  | 0 => true
  | q + 1 => so ki kv us m q && (decide (m / 2 ^ q % 2 = 0) || decide (us[ki q]? = some (kv q)))
def bI (b : Bool) : Int32 := if b = true then 1 else 0
theorem bI_bit (b : Bool) : bI b = 0 ∨ bI b = 1 := by cases b <;> simp [bI]
theorem isSo_lp {fu n m : Nat} {ki kv : Nat → Nat} {nu va le : Nat → Int32} {us : List Nat} {Q : Int32 → Prop} (hm : m < 2 ^ 31) (hk : KN n ki kv (nI n) nu va) (hu : LH le us) (su : Sm us) (h : Q (bI (so ki kv us m n))) : ∀ (j fuel q : Nat), q + j = n → j < fuel → wX10_isSo_4 fu (nI us.length) (nI n) va nu le (nI m) Q fuel (bI (so ki kv us m q)) (nI q) := by
  obtain ⟨-, hn5, hk⟩ := hk
  have a := su.1
  intro j
  induction j with
  | zero =>
    intro fuel q hq hf
    obtain ⟨f, rfl⟩ : ∃ f, fuel = f + 1 := ⟨fuel - 1, by omega⟩
    have e : q = n := by omega
    subst e
    unfold wX10_isSo_4
    exact wifp (nI_le (by omega) (by omega)) ⟨bI_bit _, h⟩
  | succ j ih =>
    intro fuel q hq hf
    obtain ⟨f, rfl⟩ : ∃ f, fuel = f + 1 := ⟨fuel - 1, by omega⟩
    obtain ⟨e1, e2, e3, e4⟩ := hk q (by omega)
    unfold wX10_isSo_4
    refine wifn (by rw [nI_leI (by omega) (by omega)]; omega) ⟨vin (by omega) (by omega), ?_⟩
    rw [ix_nI (by omega), e1, e2]
    have fin : ∀ v : Int32, v = bI (so ki kv us m (q + 1)) → wX10_isSo_74 fu (nI us.length) (nI n) va nu le (nI m) Q (wX10_isSo_4 fu (nI us.length) (nI n) va nu le (nI m) Q f) (nI q) v := by
      intro v hv
      unfold wX10_isSo_74
      rw [hv, show (1 : Int32) = nI 1 from rfl, nI_add]
      exact ih f (q + 1) (by omega) (by omega)
    have mid : ∀ b : Bool, b = decide (us[ki q]? = some (kv q)) → wX10_isSo_50 fu (nI us.length) (nI n) va nu le (nI m) Q (wX10_isSo_4 fu (nI us.length) (nI n) va nu le (nI m) Q f) (bI (so ki kv us m q)) (nI q) (bI b) := by
      intro b hb
      have e5 : so ki kv us m (q + 1) = (so ki kv us m q && (decide (m / 2 ^ q % 2 = 0) || b)) := by rw [so, hb]
      have hm2 : m / 2 ^ q % 2 < 2 := Nat.mod_lt _ (by decide)
      unfold wX10_isSo_50
      refine wif (fun c => ?_) (fun c => ?_)
      · have c' : so ki kv us m q = false := by
          cases e : so ki kv us m q with
          | false => rfl
          | true => rw [e] at c; exact absurd c (by decide)
        unfold wX10_isSo_73
        exact fin 0 (by rw [e5, c']; rfl)
      · have c' : so ki kv us m q = true := by
          cases e : so ki kv us m q with
          | true => rfl
          | false => rw [e] at c; exact absurd rfl c
        rw [shr_and hm (by omega)]
        refine wif (fun c2 => ?_) (fun c2 => ?_)
        · have c2' : m / 2 ^ q % 2 = 0 := by
            have : nI (m / 2 ^ q % 2) = nI 0 := c2
            rwa [nI_eq (by omega) (by omega)] at this
          unfold wX10_isSo_69
          exact fin 1 (by rw [e5, c', decide_eq_true c2']; rfl)
        · have c2' : ¬ m / 2 ^ q % 2 = 0 := fun h0 => c2 (by rw [h0]; rfl)
          cases b with
          | false =>
            refine wifp rfl ?_
            unfold wX10_isSo_73
            exact fin 0 (by rw [e5, c', decide_eq_false c2']; rfl)
          | true =>
            refine wifn (by decide) ?_
            unfold wX10_isSo_69
            exact fin 1 (by rw [e5, c', decide_eq_false c2']; rfl)
    refine wif (fun c => ?_) (fun c => ?_) <;> rw [nI_leI (by omega) (by omega)] at c
    · unfold wX10_isSo_49
      refine mid false ?_
      rw [List.getElem?_eq_none (by omega)]
      rfl
    · have hl : ki q < us.length := by omega
      have hv := su.2 _ (List.getElem_mem hl)
      refine ⟨vin (by omega) (by omega), vin (by omega) (by omega), vin (by omega) (by omega), ?_⟩
      rw [ix_nI (by omega), LH_at hu hl]
      refine wif (fun c2 => ?_) (fun c2 => ?_) <;> rw [nI_eq (by omega) (by omega)] at c2
      · refine mid true ?_
        rw [List.getElem?_eq_getElem hl, c2]
        simp
      · unfold wX10_isSo_49
        refine mid false ?_
        rw [List.getElem?_eq_getElem hl]
        simp [c2]
theorem isSo_ok {fu n m : Nat} {ki kv : Nat → Nat} {nu va le : Nat → Int32} {us : List Nat} {Q : Int32 → Prop} (hfu : 400 ≤ fu) (hm : m < 2 ^ 31) (hk : KN n ki kv (nI n) nu va) (hu : LH le us) (su : Sm us) (h : Q (bI (so ki kv us m n))) : wp_X10_isSo fu (nI us.length) (nI n) va nu le (nI m) Q :=
  isSo_lp hm hk hu su h n fu 0 (by omega) (by have := hk.2.1; omega)
def cnb (p : Nat → Bool) : Nat → Nat
  | 0 => 0
  | k + 1 => cnb p k + (if p k = true then 1 else 0)
def fsb (p : Nat → Bool) : Nat → Option Nat
  | 0 => none
  | k + 1 => match fsb p k with
    | some j => some j
    | none => if p k = true then some k else none
theorem cnb_le (p : Nat → Bool) : ∀ k, cnb p k ≤ k := by
  intro k
  induction k with
  | zero => exact Nat.le_refl _
  | succ k ih =>
    rw [cnb]
    split <;> omega
theorem fsb_lt (p : Nat → Bool) : ∀ k j, fsb p k = some j → j < k := by
  intro k
  induction k with
  | zero => intro j h; cases h
  | succ k ih =>
    intro j h
    rw [fsb] at h
    cases e : fsb p k with
    | some i =>
      rw [e] at h
      have hij : i = j := Option.some.inj h
      have := ih i e
      omega
    | none =>
      rw [e] at h
      by_cases c : p k = true
      · rw [show (match (none : Option Nat) with | some j => some j | none => if p k = true then some k else none) = some k by simp [c]] at h; cases h; omega
      · rw [show (match (none : Option Nat) with | some j => some j | none => if p k = true then some k else none) = none by simp [c]] at h; cases h
theorem cnb_zero (p : Nat → Bool) : ∀ k, cnb p k = 0 ↔ fsb p k = none := by
  intro k
  induction k with
  | zero => exact ⟨fun _ => rfl, fun _ => rfl⟩
  | succ k ih =>
    rw [cnb, fsb]
    cases e : fsb p k with
    | some i =>
      rw [e] at ih
      constructor
      · intro h
        have : cnb p k = 0 := by omega
        exact absurd (ih.mp this) (by simp)
      · intro h; cases h
    | none =>
      rw [e] at ih
      have h0 := ih.mpr rfl
      by_cases c : p k = true
      · simp [c]
      · simp [c, h0]
def oc (o : Option Nat) : Int32 := match o with
  | none => -9
  | some j => nI (cdN j)
theorem fsb_yes {p : Nat → Bool} {k : Nat} (h : p k = true) : fsb p (k + 1) = (match fsb p k with | some j => some j | none => some k) := by
  rw [fsb]
  cases fsb p k with
  | some j => rfl
  | none => simp [h]
theorem fsb_not {p : Nat → Bool} {k : Nat} (h : ¬ p k = true) : fsb p (k + 1) = fsb p k := by
  rw [fsb]
  cases fsb p k with
  | some j => rfl
  | none => simp [h]
theorem cnb_yes {p : Nat → Bool} {k : Nat} (h : p k = true) : cnb p (k + 1) = cnb p k + 1 := by rw [cnb, if_pos h]
theorem cnb_not {p : Nat → Bool} {k : Nat} (h : ¬ p k = true) : cnb p (k + 1) = cnb p k := by rw [cnb, if_neg h]; rfl
def pC (L : Nat → Int32) (t n : Nat) (ki kv : Nat → Nat) (k : Nat) : Bool := decide (fitK L t k) && decide (rfm ki kv (lets L t k) n = 0)
def pM (L : Nat → Int32) (t n : Nat) (ki kv : Nat → Nat) (m : Nat) (k : Nat) : Bool := decide (fitK L t k) && so ki kv (lets L t k) m n
theorem so31 (ki kv : Nat → Nat) (us : List Nat) : ∀ n, n ≤ 5 → so ki kv us 31 n = decide (rfm ki kv us n = 0) := by
  intro n
  induction n with
  | zero => intro _; rfl
  | succ n ih =>
    intro h
    have e : 31 / 2 ^ n % 2 = 1 := by
      rcases (show n = 0 ∨ n = 1 ∨ n = 2 ∨ n = 3 ∨ n = 4 by omega) with rfl | rfl | rfl | rfl | rfl <;> rfl
    have hp : 0 < 2 ^ n := Nat.two_pow_pos n
    rw [so, rfm, ih (by omega), e]
    by_cases c : us[ki n]? = some (kv n)
    · rw [if_pos c]
      simp [c]
    · rw [if_neg c]
      simp [c]
theorem pCM {L : Nat → Int32} {t n : Nat} {ki kv : Nat → Nat} (hn : n ≤ 5) : pM L t n ki kv 31 = pC L t n ki kv := by
  funext k
  unfold pM pC
  rw [so31 _ _ _ n hn]
theorem sift_lp {fu t n : Nat} {ki kv : Nat → Nat} {lev L fi la nu va : Nat → Int32} {rr : Int32} {Q : Int32 → Int32 → Int32 → Int32 → Int32 → Int32 → Int32 → Int32 → Int32 → Int32 → Int32 → (Nat → Int32) → Int32 → Int32 → (Nat → Int32) → (Nat → Int32) → (Nat → Int32) → Prop} (hfu : 1000 ≤ fu) (hw : CW lev (nI t) L t) (hbt : Bt L t) (hr : RunsOK L t fi la) (hk : KN n ki kv (nI n) nu va)
    (h : ∀ b1 b2 b3 b4 b5 b6 b7 b8 b9 le st, Q (oc (fsb (pC L t n ki kv) 768)) (nI (cnb (pC L t n ki kv) 768)) b1 b2 b3 b4 b5 b6 b7 b8 b9 le rr (nI t) fi la st) :
    ∀ (j fuel k : Nat) (b1 b2 b3 b4 b5 b6 b7 b8 b9 : Int32) (le st : Nat → Int32), k + j = 768 → j < fuel → wX3_sift_19 fu (nI t) lev (nI n) nu va Q fuel (nI k) (oc (fsb (pC L t n ki kv) k)) (nI (cnb (pC L t n ki kv) k)) b1 b2 b3 b4 b5 b6 b7 b8 b9 le rr (nI t) fi la st := by
  have ht := hw.2.1
  intro j
  induction j with
  | zero =>
    intro fuel k b1 b2 b3 b4 b5 b6 b7 b8 b9 le st hj hf
    obtain ⟨f, rfl⟩ : ∃ f, fuel = f + 1 := ⟨fuel - 1, by omega⟩
    have e : k = 768 := by omega
    subst e
    unfold wX3_sift_19
    exact wifp (by decide) (h _ _ _ _ _ _ _ _ _ _ _)
  | succ j ih =>
    intro fuel k b1 b2 b3 b4 b5 b6 b7 b8 b9 le st hj hf
    obtain ⟨f, rfl⟩ : ∃ f, fuel = f + 1 := ⟨fuel - 1, by omega⟩
    have hk7 : k < 768 := by omega
    unfold wX3_sift_19
    refine wifn (by simp (disch := omega) only [lit_nI, nI_leI]; omega) (become_ok hk7 ?_)
    refine readK_C (by omega) hw hbt hr hk7 (fun hfit fs' le' st' hle hfi => ?_) (fun hno fs' fl' fr' mm' le' st' hfi => ?_)
    · refine fitsC_use hfi (wifn (by decide) ?_)
      rw [← lets_len]
      refine refuters_ok (by omega) hk (lets_LH hle) (lets_Sm ht hk7) ?_
      have hlt := rfm_lt ki kv (lets L t k) n
      have h32 : 2 ^ n ≤ 2 ^ 5 := Nat.pow_le_pow_right (by omega) hk.2.1
      refine wif (fun c => ?_) (fun c => ?_)
      · have c' : rfm ki kv (lets L t k) n = 0 := by
          have : nI (rfm ki kv (lets L t k) n) = nI 0 := c
          rwa [nI_eq (by omega) (by omega)] at this
        have py : pC L t n ki kv k = true := by unfold pC; rw [decide_eq_true hfit, decide_eq_true c']; rfl
        have nxt : ∀ v : Int32, v = oc (fsb (pC L t n ki kv) (k + 1)) → ∀ l0 : Int32, wX3_sift_93 fu (nI t) lev (nI n) nu va Q (wX3_sift_19 fu (nI t) lev (nI n) nu va Q f) (nI k) v l0 (nI (cnb (pC L t n ki kv) k) + (1 : Int32)) (nI (gb k)) (nI (gd k)) (gi k) (nI (gp k)) (nI (gs k)) fs' 0 (nI (lets L t k).length) (nI (mK L t k)) le' rr (nI t) fi la st' := by
          intro v hv l0
          unfold wX3_sift_93 wX3_sift_96
          rw [hv, show (1 : Int32) = nI 1 from rfl, nI_add, nI_add, ← cnb_yes py]
          exact ih f (k + 1) _ _ _ _ _ _ _ _ _ _ _ (by omega) (by omega)
        cases eo : fsb (pC L t n ki kv) k with
        | none =>
          refine wifp rfl (codeK_ok (nxt _ ?_ _))
          rw [fsb_yes py, eo]
          rfl
        | some i =>
          have hi := fsb_lt _ _ _ eo
          refine wifn (cdN_n9 (by omega)) (nxt _ ?_ _)
          rw [fsb_yes py, eo]
      · have pn : ¬ pC L t n ki kv k = true := by
          unfold pC
          intro hh
          rw [Bool.and_eq_true] at hh
          have := of_decide_eq_true hh.2
          exact c (by rw [this]; rfl)
        unfold wX3_sift_96
        rw [show (1 : Int32) = nI 1 from rfl, nI_add, ← fsb_not pn, ← cnb_not pn]
        exact ih f (k + 1) _ _ _ _ _ _ _ _ _ _ _ (by omega) (by omega)
    · refine fitsC_use hfi (wifp rfl ?_)
      have pn : ¬ pC L t n ki kv k = true := by
        unfold pC
        intro hh
        rw [Bool.and_eq_true] at hh
        exact hno (of_decide_eq_true hh.1)
      unfold wX3_sift_96
      rw [show (1 : Int32) = nI 1 from rfl, nI_add, ← fsb_not pn, ← cnb_not pn]
      exact ih f (k + 1) _ _ _ _ _ _ _ _ _ _ _ (by omega) (by omega)
theorem sift_ok {fu t n : Nat} {ki kv : Nat → Nat} {lev L nu va : Nat → Int32} {Q : Int32 → Int32 → Int32 → Int32 → Int32 → Int32 → Int32 → Int32 → Int32 → Int32 → Int32 → (Nat → Int32) → Int32 → Int32 → (Nat → Int32) → (Nat → Int32) → (Nat → Int32) → Prop} {a1 a2 a3 a4 a5 a6 a7 a8 a9 a10 a11 : Int32} {a12 : Nat → Int32} {a13 a14 : Int32} {a15 a16 a17 : Nat → Int32} (hfu : 1000 ≤ fu) (hw : CW lev (nI t) L t) (hbt : Bt L t) (hk : KN n ki kv (nI n) nu va)
    (h : ∀ fi la b1 b2 b3 b4 b5 b6 b7 b8 b9 le st, Q (oc (fsb (pC L t n ki kv) 768)) (nI (cnb (pC L t n ki kv) 768)) b1 b2 b3 b4 b5 b6 b7 b8 b9 le (nI (rc L t)) (nI t) fi la st) : wp_X3_sift fu (nI t) lev (nI n) nu va a1 a2 a3 a4 a5 a6 a7 a8 a9 a10 a11 a12 a13 a14 a15 a16 a17 Q := by
  unfold wp_X3_sift
  refine listenTo_ok (by omega) hw (fun fi la hr => ?_)
  exact sift_lp hfu hw hbt hr hk (fun b1 b2 b3 b4 b5 b6 b7 b8 b9 le st => h fi la b1 b2 b3 b4 b5 b6 b7 b8 b9 le st) 768 fu 0 _ _ _ _ _ _ _ _ _ _ _ (by omega) (by omega)
theorem left_lp {fu t n m : Nat} {ki kv : Nat → Nat} {row L de nu va : Nat → Int32} {x2 : Int32} {Q : Int32 → Int32 → Int32 → Int32 → Int32 → Int32 → Int32 → Int32 → Int32 → Int32 → (Nat → Int32) → (Nat → Int32) → Prop} (hfu : 1000 ≤ fu) (hw : MW row L t) (hm : m < 2 ^ 31) (hk : KN n ki kv (nI n) nu va)
    (h0 : x2 = 0 → ∀ b1 b2 b3 b4 b5 b6 b7 b8 b9 le st, Q (nI (cnb (pM L t n ki kv m) 768)) b1 b2 b3 b4 b5 b6 b7 b8 b9 le st) (h1 : ¬ x2 = 0 → ∀ b1 b2 b3 b4 b5 b6 b7 b8 b9 le st, Q (oc (fsb (pM L t n ki kv m) 768)) b1 b2 b3 b4 b5 b6 b7 b8 b9 le st) :
    ∀ (j fuel k : Nat) (b1 b2 b3 b4 b5 b6 b7 b8 b9 : Int32) (le st : Nat → Int32), k + j = 768 → j < fuel → wX10_left_9 fu (nI n) de va nu row (nI m) x2 Q fuel (nI (cnb (pM L t n ki kv m) k)) (oc (fsb (pM L t n ki kv m) k)) (nI k) b1 b2 b3 b4 b5 b6 b7 b8 b9 le st := by
  have ht := hw.2.1
  intro j
  induction j with
  | zero =>
    intro fuel k b1 b2 b3 b4 b5 b6 b7 b8 b9 le st hj hf
    obtain ⟨f, rfl⟩ : ∃ f, fuel = f + 1 := ⟨fuel - 1, by omega⟩
    have e : k = 768 := by omega
    subst e
    unfold wX10_left_9
    exact wifp (by decide) (wif (fun c => h0 c _ _ _ _ _ _ _ _ _ _ _) (fun c => h1 c _ _ _ _ _ _ _ _ _ _ _))
  | succ j ih =>
    intro fuel k b1 b2 b3 b4 b5 b6 b7 b8 b9 le st hj hf
    obtain ⟨f, rfl⟩ : ∃ f, fuel = f + 1 := ⟨fuel - 1, by omega⟩
    have hk7 : k < 768 := by omega
    have hcl := cnb_le (pM L t n ki kv m) k
    unfold wX10_left_9
    refine wifn (by simp (disch := omega) only [lit_nI, nI_leI]; omega) (codeOf_ok hk7 (layCodeK_ok hk7 ?_))
    refine readK_M (by omega) hw hk7 (fun hfit fs' mm' le' st' hmm hle hfi => ?_) (fun hno fs' fl' fr' mm' le' st' hfi => ?_)
    · refine wifn (by decide) (fitsM_use hfi (wifn (by decide) ?_))
      rw [← lets_len]
      refine isSo_ok (by omega) hm hk (lets_LH hle) (lets_Sm ht hk7) ?_
      cases es : so ki kv (lets L t k) m n with
      | false =>
        refine wifp rfl ?_
        have pn : ¬ pM L t n ki kv m k = true := by unfold pM; rw [es]; simp
        unfold wX10_left_75
        rw [show (1 : Int32) = nI 1 from rfl, nI_add, ← fsb_not pn, ← cnb_not pn]
        exact ih f (k + 1) _ _ _ _ _ _ _ _ _ _ _ (by omega) (by omega)
      | true =>
        refine wifn (by decide) ?_
        have py : pM L t n ki kv m k = true := by unfold pM; rw [es, decide_eq_true hfit]; rfl
        have nxt : ∀ v : Int32, v = oc (fsb (pM L t n ki kv m) (k + 1)) → wX10_left_70 fu (nI n) de va nu row (nI m) x2 Q (wX10_left_9 fu (nI n) de va nu row (nI m) x2 Q f) (nI (cnb (pM L t n ki kv m) k)) (nI k) v (nI (gd k)) 0 fs' (nI (lets L t k).length) (gi k) mm' (nI (gp k)) (nI (gs k)) (nI (gb k)) le' st' := by
          intro v hv
          unfold wX10_left_70 wX10_left_75
          rw [hv, show (1 : Int32) = nI 1 from rfl, nI_add, nI_add, ← cnb_yes py]
          exact ih f (k + 1) _ _ _ _ _ _ _ _ _ _ _ (by omega) (by omega)
        cases eo : fsb (pM L t n ki kv m) k with
        | none =>
          have hz := (cnb_zero _ _).mpr eo
          refine wifp (by rw [hz]; rfl) (codeOf_ok hk7 (nxt _ ?_))
          rw [fsb_yes py, eo]
          rfl
        | some i =>
          have hz : ¬ cnb (pM L t n ki kv m) k = 0 := fun hh => by rw [(cnb_zero _ _).mp hh] at eo; cases eo
          refine wifn (nI_ne0 (by omega) (by omega)) (nxt _ ?_)
          rw [fsb_yes py, eo]
    · refine wifn (by decide) (fitsM_use hfi (wifp rfl ?_))
      have pn : ¬ pM L t n ki kv m k = true := by
        unfold pM
        intro hh
        rw [Bool.and_eq_true] at hh
        exact hno (of_decide_eq_true hh.1)
      unfold wX10_left_75
      rw [show (1 : Int32) = nI 1 from rfl, nI_add, ← fsb_not pn, ← cnb_not pn]
      exact ih f (k + 1) _ _ _ _ _ _ _ _ _ _ _ (by omega) (by omega)
theorem left_ok {fu t n m : Nat} {ki kv : Nat → Nat} {row L de nu va : Nat → Int32} {x2 : Int32} {Q : Int32 → Int32 → Int32 → Int32 → Int32 → Int32 → Int32 → Int32 → Int32 → Int32 → (Nat → Int32) → (Nat → Int32) → Prop} {a1 a2 a3 a4 a5 a6 a7 a8 a9 : Int32} {a10 a11 : Nat → Int32} (hfu : 1000 ≤ fu) (hw : MW row L t) (hm : m < 2 ^ 31) (hk : KN n ki kv (nI n) nu va)
    (h0 : x2 = 0 → ∀ b1 b2 b3 b4 b5 b6 b7 b8 b9 le st, Q (nI (cnb (pM L t n ki kv m) 768)) b1 b2 b3 b4 b5 b6 b7 b8 b9 le st) (h1 : ¬ x2 = 0 → ∀ b1 b2 b3 b4 b5 b6 b7 b8 b9 le st, Q (oc (fsb (pM L t n ki kv m) 768)) b1 b2 b3 b4 b5 b6 b7 b8 b9 le st) : wp_X10_left fu (nI n) de va nu row (nI m) x2 a1 a2 a3 a4 a5 a6 a7 a8 a9 a10 a11 Q := by
  unfold wp_X10_left
  exact left_lp hfu hw hm hk h0 h1 768 fu 0 _ _ _ _ _ _ _ _ _ _ _ (by omega) (by omega)
