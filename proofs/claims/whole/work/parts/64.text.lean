/-! the text -/
def TC (n : Nat) (c : Nat → Nat) (le : Nat → Int32) : Prop := n ≤ 99 ∧ ∀ i, i < n → le i = nI (c i) ∧ c i ≤ 255
def dgt (c : Nat) : Prop := 48 ≤ c ∧ c ≤ 57
def tol (c : Nat → Nat) (p : Nat) : Nat := 10 * (c (p + 1) - 48) + (c (p + 2) - 48)
def scan (c : Nat → Nat) (n : Nat) : Nat → Nat → Nat → Option Nat
  | 0, _, _ => none
  | f + 1, p, m => if n ≤ p then none else if ¬ (c p = 114 ∧ m < 360) then some p else if ¬ (p + 1 < n ∧ (48 ≤ c (p + 1) ∧ c (p + 1) ≤ 57) ∧ m + 10 * (c (p + 1) - 48) ≤ 360) then some (p + 1) else if ¬ (p + 2 < n ∧ (48 ≤ c (p + 2) ∧ c (p + 2) ≤ 57) ∧ tol c p ≠ 0 ∧ m + tol c p ≤ 360) then some (p + 2) else scan c n f (p + 3) (m + tol c p)
def LY (c : Nat → Nat) (n : Nat) : Nat → Nat → Nat → Int32 → (Nat → Int32) → (Nat → Int32) × Nat
  | 0, _, m, _, L => (L, m)
  | f + 1, p, m, lv, L => if n ≤ p then (L, m) else LY c n f (p + 3) (m + tol c p) (1 - lv) (xt L m lv)
def oI (o : Option Nat) : Int32 := match o with
  | none => -9
  | some k => nI k
theorem signAt_ok {fu n p : Nat} {c : Nat → Nat} {le : Nat → Int32} {Q : Int32 → Prop} (ht : TC n c le) (hp : p < 1000) (h1 : p < n → Q (nI (c p))) (h0 : n ≤ p → Q (-9)) : wp_X7_signAt fu (nI n) le (nI p) Q := by
  have hn := ht.1
  unfold wp_X7_signAt
  refine wifn (nI_pos (by omega)) ?_
  refine wif (fun g => ?_) (fun g => ?_) <;> rw [nI_leI (by omega) (by omega)] at g
  · exact h0 g
  · refine ⟨vin (by omega) (by omega), ?_⟩
    rw [ix_nI (by omega), (ht.2 p (by omega)).1]
    exact h1 (by omega)
theorem figureAt_ok {fu n p : Nat} {c : Nat → Nat} {le : Nat → Int32} {Q : Int32 → Prop} (ht : TC n c le) (hp : p < 1000) (h1 : p < n → 48 ≤ c p → c p ≤ 57 → Q (nI (c p - 48))) (h0 : ¬ (p < n ∧ 48 ≤ c p ∧ c p ≤ 57) → Q (-9)) : wp_X7_figureAt fu (nI n) le (nI p) Q := by
  unfold wp_X7_figureAt
  refine signAt_ok ht hp (fun g => ?_) (fun g => ?_)
  · have hc := (ht.2 p g).2
    refine wif (fun g1 => ?_) (fun g1 => wif (fun g2 => ?_) (fun g2 => ?_))
    · rw [show (48 : Int32) = nI 48 from rfl, nI_ltI (by omega) (by omega)] at g1
      exact h0 (by omega)
    · rw [show (57 : Int32) = nI 57 from rfl, nI_ltI (by omega) (by omega)] at g2
      exact h0 (by omega)
    · rw [show (48 : Int32) = nI 48 from rfl, nI_ltI (by omega) (by omega)] at g1
      rw [show (57 : Int32) = nI 57 from rfl, nI_ltI (by omega) (by omega)] at g2
      rw [show (48 : Int32) = nI 48 from rfl, nI_sub (by omega)]
      exact h1 g (by omega) (by omega)
  · exact wifp (by decide) (h0 (by omega))
theorem ticksTold_ok {fu n p : Nat} {c : Nat → Nat} {le : Nat → Int32} {Q : Int32 → Prop} (ht : TC n c le) (hp : p < 900) (h2 : p + 2 < n) (d1 : 48 ≤ c (p + 1) ∧ c (p + 1) ≤ 57) (d2 : 48 ≤ c (p + 2) ∧ c (p + 2) ≤ 57) (h : Q (nI (tol c p))) : wp_X7_ticksToldAt fu (nI n) le (nI p) Q := by
  unfold wp_X7_ticksToldAt
  rw [show (1 : Int32) = nI 1 from rfl, show (2 : Int32) = nI 2 from rfl, nI_add, nI_add]
  refine figureAt_ok ht (by omega) (fun _ _ _ => ?_) (fun g => by omega)
  refine figureAt_ok ht (by omega) (fun _ _ _ => ?_) (fun g => by omega)
  rw [show (10 : Int32) = nI 10 from rfl, nI_mul, nI_add]
  exact h
theorem faultOfRun_ok {fu n p m : Nat} {c : Nat → Nat} {le : Nat → Int32} {Q : Int32 → Prop} (ht : TC n c le) (hp : p < n) (hm : m ≤ 360)
    (h1 : ¬ (c p = 114 ∧ m < 360) → Q (nI p)) (h2 : ¬ (p + 1 < n ∧ (48 ≤ c (p + 1) ∧ c (p + 1) ≤ 57) ∧ m + 10 * (c (p + 1) - 48) ≤ 360) → (c p = 114 ∧ m < 360) → Q (nI (p + 1))) (h3 : ¬ (p + 2 < n ∧ (48 ≤ c (p + 2) ∧ c (p + 2) ≤ 57) ∧ tol c p ≠ 0 ∧ m + tol c p ≤ 360) → (c p = 114 ∧ m < 360) → (p + 1 < n ∧ (48 ≤ c (p + 1) ∧ c (p + 1) ≤ 57) ∧ m + 10 * (c (p + 1) - 48) ≤ 360) → Q (nI (p + 2)))
    (h4 : (c p = 114 ∧ m < 360) → (p + 1 < n ∧ (48 ≤ c (p + 1) ∧ c (p + 1) ≤ 57) ∧ m + 10 * (c (p + 1) - 48) ≤ 360) → (p + 2 < n ∧ (48 ≤ c (p + 2) ∧ c (p + 2) ≤ 57) ∧ tol c p ≠ 0 ∧ m + tol c p ≤ 360) → Q (-9)) : wp_X7_faultOfRun fu (nI n) le (nI p) (nI m) Q := by
  have hn := ht.1
  unfold wp_X7_faultOfRun
  intro y ey
  rw [show (360 : Int32) = nI 360 from rfl, nI_sub hm] at ey
  subst ey
  have e1 : (1 : Int32) = nI 1 := rfl
  have e2 : (2 : Int32) = nI 2 := rfl
  have e10 : (10 : Int32) = nI 10 := rfl
  refine signAt_ok ht (by omega) (fun g => ?_) (fun g => by omega)
  have hc := (ht.2 p g).2
  refine wif (fun g1 => ?_) (fun g1 => ?_) <;> rw [show (114 : Int32) = nI 114 from rfl, nI_eq (by omega) (by omega)] at g1
  · refine wif (fun g2 => ?_) (fun g2 => ?_) <;> rw [e1, nI_leI (by omega) (by omega)] at g2
    · rw [e1, nI_add]
      have k1 : c p = 114 ∧ m < 360 := ⟨g1, by omega⟩
      refine figureAt_ok ht (by omega) (fun q1 q2 q3 => ?_) (fun q => ?_)
      · refine wifn (by rw [show (-9 : Int32) = -nI 9 from rfl, nI_n9 (by omega)]; exact not_false) ?_
        rw [e10, nI_mul]
        refine wif (fun g3 => ?_) (fun g3 => ?_) <;> rw [nI_leI (by omega) (by omega)] at g3
        · have k2 : p + 1 < n ∧ (48 ≤ c (p + 1) ∧ c (p + 1) ≤ 57) ∧ m + 10 * (c (p + 1) - 48) ≤ 360 := ⟨q1, ⟨q2, q3⟩, by omega⟩
          rw [e2, nI_add]
          refine figureAt_ok ht (by omega) (fun r1 r2 r3 => ?_) (fun q => ?_)
          · rw [nI_add]
            intro y ey
            subst ey
            have et : 10 * (c (p + 1) - 48) + (c (p + 2) - 48) = tol c p := rfl
            rw [et]
            have tl : tol c p ≤ 99 := by unfold tol; omega
            refine wifn (by rw [show (-9 : Int32) = -nI 9 from rfl, nI_n9 (by omega)]; exact not_false) ?_
            refine wif (fun g4 => ?_) (fun g4 => ?_) <;> rw [nI_ltI (by omega) (by omega)] at g4
            · exact h3 (by omega) k1 k2
            · refine wif (fun g5 => ?_) (fun g5 => ?_) <;> rw [nI_leI (by omega) (by omega)] at g5
              · exact h4 k1 k2 ⟨r1, ⟨r2, r3⟩, by omega, by omega⟩
              · exact h3 (by omega) k1 k2
          · intro y ey
            exact wifp rfl (h3 (fun k => q ⟨k.1, k.2.1.1, k.2.1.2⟩) k1 k2)
        · exact h2 (by omega) k1
      · exact wifp rfl (h2 (fun k => q ⟨k.1, k.2.1.1, k.2.1.2⟩) k1)
    · exact h1 (by omega)
  · exact h1 (fun k => g1 k.1)
theorem ff_lp {fu n : Nat} {c : Nat → Nat} {le : Nat → Int32} {Q : Int32 → Prop} (ht : TC n c le) : ∀ (f fuel p m : Nat), f < fuel → n ≤ p + f → p < 400 → m ≤ 360 → Q (oI (scan c n f p m)) → wX7_firstFault_38 fu (nI n) le Q fuel (nI m) (nI p) := by
  have hn := ht.1
  intro f
  induction f with
  | zero =>
    intro fuel p m hf hnp hp hm h
    obtain ⟨f, rfl⟩ : ∃ f, fuel = f + 1 := ⟨fuel - 1, by omega⟩
    unfold wX7_firstFault_38
    exact wifp (by rw [nI_leI (by omega) (by omega)]; omega) h
  | succ f ih =>
    intro fuel p m hf hnp hp hm h
    obtain ⟨fu', rfl⟩ : ∃ f, fuel = f + 1 := ⟨fuel - 1, by omega⟩
    unfold scan at h
    unfold wX7_firstFault_38
    refine wif (fun g => ?_) (fun g => ?_) <;> rw [nI_leI (by omega) (by omega)] at g
    · rw [if_pos g] at h; exact h
    · rw [if_neg g] at h
      have n9 : ∀ k, k < 2 ^ 31 → ¬ nI k = (-9 : Int32) := fun k hk => by rw [show (-9 : Int32) = -nI 9 from rfl, nI_n9 hk]; exact not_false
      refine faultOfRun_ok ht (by omega) hm (fun k1 => wifn (n9 _ (by omega)) ?_) (fun k2 k1 => wifn (n9 _ (by omega)) ?_) (fun k3 k1 k2 => wifn (n9 _ (by omega)) ?_) (fun k1 k2 k3 => wifp rfl ?_)
      · rw [if_pos k1] at h; exact h
      · rw [if_neg (not_not_intro k1), if_pos k2] at h; exact h
      · rw [if_neg (not_not_intro k1), if_neg (not_not_intro k2), if_pos k3] at h; exact h
      · rw [if_neg (not_not_intro k1), if_neg (not_not_intro k2), if_neg (not_not_intro k3)] at h
        refine ticksTold_ok ht (by omega) (by omega) k2.2.1 k3.2.1 ?_
        intro y ey
        rw [nI_add] at ey
        subst ey
        rw [show (3 : Int32) = nI 3 from rfl, nI_add]
        exact ih fu' (p + 3) (m + tol c p) (by omega) (by omega) (by omega) (by omega) h
def FF (c : Nat → Nat) (n : Nat) : Option Nat := if ¬ (0 < n ∧ c 0 = 83) then some 0 else if ¬ (1 < n ∧ (c 1 = 48 ∨ c 1 = 49)) then some 1 else scan c n 200 2 0
theorem firstFault_ok {fu n : Nat} {c : Nat → Nat} {le : Nat → Int32} {Q : Int32 → Prop} (hfu : 400 ≤ fu) (ht : TC n c le) (h : Q (oI (FF c n))) : wp_X7_firstFault fu (nI n) le Q := by
  have hn := ht.1
  unfold FF at h
  unfold wp_X7_firstFault
  have lp : scan c n 200 2 0 = scan c n 200 2 0 → Q (oI (scan c n 200 2 0)) → wX7_firstFault_34 fu (nI n) le Q := by
    intro _ h
    unfold wX7_firstFault_34
    exact ff_lp ht 200 fu 2 0 (by omega) (by omega) (by omega) (by omega) h
  refine signAt_ok (p := 0) ht (by omega) (fun g => ?_) (fun g => wifn (by decide) ?_)
  · have hc := (ht.2 0 g).2
    refine wif (fun g1 => ?_) (fun g1 => ?_) <;> rw [show (83 : Int32) = nI 83 from rfl, nI_eq (by omega) (by omega)] at g1
    · rw [if_neg (not_not_intro ⟨g, g1⟩)] at h
      refine signAt_ok (p := 1) ht (by omega) (fun g2 => ?_) (fun g2 => wifn (by decide) ?_)
      · have hc1 := (ht.2 1 g2).2
        refine wif (fun g3 => ?_) (fun g3 => ?_) <;> rw [show (48 : Int32) = nI 48 from rfl, nI_eq (by omega) (by omega)] at g3
        · rw [if_neg (not_not_intro ⟨g2, Or.inl g3⟩)] at h
          exact lp rfl h
        · refine signAt_ok (p := 1) ht (by omega) (fun _ => ?_) (fun g => by omega)
          refine wif (fun g4 => ?_) (fun g4 => ?_) <;> rw [show (49 : Int32) = nI 49 from rfl, nI_eq (by omega) (by omega)] at g4
          · rw [if_neg (not_not_intro ⟨g2, Or.inr g4⟩)] at h
            exact lp rfl h
          · rw [if_pos (by omega)] at h; exact h
      · refine signAt_ok (p := 1) ht (by omega) (fun g => by omega) (fun _ => wifn (by decide) ?_)
        rw [if_pos (by omega)] at h; exact h
    · rw [if_pos (by omega)] at h; exact h
  · rw [if_pos (by omega)] at h; exact h
/-! the class lays what is told -/
theorem LY_m {c : Nat → Nat} {n : Nat} : ∀ (f p m : Nat) (lv : Int32) (L : Nat → Int32), scan c n f p m = none → m ≤ 360 → m ≤ (LY c n f p m lv L).2 ∧ (LY c n f p m lv L).2 ≤ 360 := by
  intro f
  induction f with
  | zero => intro p m lv L h hm; exact ⟨Nat.le_refl _, hm⟩
  | succ f ih =>
    intro p m lv L h hm
    unfold scan at h
    unfold LY
    by_cases g : n ≤ p
    · rw [if_pos g]; exact ⟨Nat.le_refl _, hm⟩
    · rw [if_neg g] at h ⊢
      by_cases k1 : c p = 114 ∧ m < 360
      · rw [if_neg (not_not_intro k1)] at h
        by_cases k2 : p + 1 < n ∧ (48 ≤ c (p + 1) ∧ c (p + 1) ≤ 57) ∧ m + 10 * (c (p + 1) - 48) ≤ 360
        · rw [if_neg (not_not_intro k2)] at h
          by_cases k3 : p + 2 < n ∧ (48 ≤ c (p + 2) ∧ c (p + 2) ≤ 57) ∧ tol c p ≠ 0 ∧ m + tol c p ≤ 360
          · rw [if_neg (not_not_intro k3)] at h
            have := ih (p + 3) (m + tol c p) (1 - lv) (xt L m lv) h k3.2.2.2
            exact ⟨by omega, this.2⟩
          · rw [if_pos k3] at h; cases h
        · rw [if_pos k2] at h; cases h
      · rw [if_pos k1] at h; cases h
theorem LY_Bt {c : Nat → Nat} {n : Nat} : ∀ (f p m : Nat) (lv : Int32) (L : Nat → Int32), (lv = 0 ∨ lv = 1) → Bt L m → Bt (LY c n f p m lv L).1 (LY c n f p m lv L).2 := by
  intro f
  induction f with
  | zero => intro p m lv L h hb; exact hb
  | succ f ih =>
    intro p m lv L h hb
    unfold LY
    by_cases g : n ≤ p
    · rw [if_pos g]; exact hb
    · rw [if_neg g]; exact ih _ _ _ _ (not_bit h) (Bt_xt hb h)
theorem lay_lp {fu n : Nat} {c : Nat → Nat} {le : Nat → Int32} {Q : Int32 → (Nat → Int32) → Prop} (hfu : 400 ≤ fu) (ht : TC n c le) : ∀ (f fuel p m : Nat) (lv : Int32) (L lev : Nat → Int32), f < fuel → n ≤ p + f → p < 400 → CW lev (nI m) L m → scan c n f p m = none → (∀ lev', CW lev' (nI (LY c n f p m lv L).2) (LY c n f p m lv L).1 (LY c n f p m lv L).2 → Q (nI (LY c n f p m lv L).2) lev') → wX7_layOn_25 fu (nI n) le Q fuel lv (nI p) (nI m) lev := by
  have hn := ht.1
  intro f
  induction f with
  | zero =>
    intro fuel p m lv L lev hf hnp hp hw hs h
    obtain ⟨f, rfl⟩ : ∃ f, fuel = f + 1 := ⟨fuel - 1, by omega⟩
    unfold wX7_layOn_25
    exact wifp (by rw [nI_leI (by omega) (by omega)]; omega) (h lev hw)
  | succ f ih =>
    intro fuel p m lv L lev hf hnp hp hw h hq
    obtain ⟨fu', rfl⟩ : ∃ f, fuel = f + 1 := ⟨fuel - 1, by omega⟩
    unfold scan at h
    unfold LY at hq
    unfold wX7_layOn_25
    refine wif (fun g => ?_) (fun g => ?_) <;> rw [nI_leI (by omega) (by omega)] at g
    · rw [if_pos g] at hq; exact hq lev hw
    · rw [if_neg g] at h hq
      by_cases k1 : c p = 114 ∧ m < 360
      · rw [if_neg (not_not_intro k1)] at h
        by_cases k2 : p + 1 < n ∧ (48 ≤ c (p + 1) ∧ c (p + 1) ≤ 57) ∧ m + 10 * (c (p + 1) - 48) ≤ 360
        · rw [if_neg (not_not_intro k2)] at h
          by_cases k3 : p + 2 < n ∧ (48 ≤ c (p + 2) ∧ c (p + 2) ≤ 57) ∧ tol c p ≠ 0 ∧ m + tol c p ≤ 360
          · rw [if_neg (not_not_intro k3)] at h
            refine ticksTold_ok ht (by omega) (by omega) k2.2.1 k3.2.1 ?_
            refine extend_ok hfu hw k3.2.2.2 (fun lev' hw' => ?_)
            intro y ey
            subst ey
            rw [show (3 : Int32) = nI 3 from rfl, nI_add]
            exact ih fu' (p + 3) (m + tol c p) (1 - lv) (xt L m lv) lev' (by omega) (by omega) (by omega) hw' h hq
          · rw [if_pos k3] at h; cases h
        · rw [if_pos k2] at h; cases h
      · rw [if_pos k1] at h; cases h
def TW (c : Nat → Nat) (n : Nat) : (Nat → Int32) × Nat := LY c n 200 2 0 (nI (c 1 - 48)) (fun _ => 0)
theorem FF_none {c : Nat → Nat} {n : Nat} (h : FF c n = none) : (0 < n ∧ c 0 = 83) ∧ (1 < n ∧ (c 1 = 48 ∨ c 1 = 49)) ∧ scan c n 200 2 0 = none := by
  unfold FF at h
  by_cases k1 : 0 < n ∧ c 0 = 83
  · rw [if_neg (not_not_intro k1)] at h
    by_cases k2 : 1 < n ∧ (c 1 = 48 ∨ c 1 = 49)
    · rw [if_neg (not_not_intro k2)] at h
      exact ⟨k1, k2, h⟩
    · rw [if_pos k2] at h; cases h
  · rw [if_pos k1] at h; cases h
theorem layOn_ok {fu n t : Nat} {c : Nat → Nat} {le lev L : Nat → Int32} {Q : Int32 → (Nat → Int32) → Prop} (hfu : 400 ≤ fu) (ht : TC n c le) (hw : CW lev (nI t) L t) (hs : FF c n = none) (h : ∀ lev', CW lev' (nI (TW c n).2) (TW c n).1 (TW c n).2 → Q (nI (TW c n).2) lev') : wp_X7_layOn fu (nI n) le (nI t) lev Q := by
  obtain ⟨k1, k2, k3⟩ := FF_none hs
  have hn := ht.1
  have tt := hw.2.1
  unfold wp_X7_layOn
  have lp : wX7_layOn_15 fu (nI n) le Q (nI (c 1 - 48)) (nI t) lev := by
    unfold wX7_layOn_15
    refine shorten_ok (n := 360) tt (by omega) ?_
    rw [show t - 360 = 0 by omega]
    exact lay_lp hfu ht 200 fu 2 0 _ (fun _ => 0) lev (by omega) (by omega) (by omega) ⟨rfl, by omega, fun i hi => by omega⟩ k3 h
  refine signAt_ok (p := 1) ht (by omega) (fun g => ?_) (fun g => by omega)
  have hc1 := (ht.2 1 g).2
  refine wif (fun g4 => ?_) (fun g4 => ?_) <;> rw [show (49 : Int32) = nI 49 from rfl, nI_eq (by omega) (by omega)] at g4
  · rw [g4] at lp; exact lp
  · have e : c 1 = 48 := by omega
    rw [e] at lp; exact lp
/-! the reference takes letter by letter -/
theorem dg_ok {fu c hi : Nat} {h9 : Int64} {Q : Int32 → Prop} (hc : c ≤ 255) (hh : hi ≤ 9) (eh : h9.toInt = (hi : Int)) (h1 : 48 ≤ c → c ≤ 48 + hi → nI c - 48 = nI (c - 48) → Q 1) (h0 : ¬ (48 ≤ c ∧ c ≤ 48 + hi) → Q 0) : wp_X10_in fu (Int32.toInt64 (nI c - 48)) (0 : Int64) h9 Q := by
  have e : (nI c - 48).toInt = (c : Int) - 48 := by
    rw [show (48 : Int32) = nI 48 from rfl, pk_sub_toInt (by omega) (by omega)]
    omega
  refine in_ok (fun g => ?_) (fun g => ?_) <;> rw [e, eh, show (0 : Int64).toInt = 0 from rfl] at g
  · refine h1 (by omega) (by omega) ?_
    rw [show (48 : Int32) = nI 48 from rfl, nI_sub (by omega)]
  · exact h0 (by omega)
theorem tl0 {fu c m : Nat} {lv ten : Int32} {rt : Nat → Int32} {Q : Int32 → Int32 → Int32 → Int32 → Int32 → (Nat → Int32) → Prop} (hc : c ≤ 255) (hm : m ≤ 360) (h1 : c = 114 ∧ m < 360 → Q 1 2 lv (nI m) ten rt) (h0 : ¬ (c = 114 ∧ m < 360) → Q 0 2 lv (nI m) ten rt) : wp_X10_takeLetter fu (nI c) 0 lv (nI m) ten rt Q := by
  unfold wp_X10_takeLetter
  intro y ey
  refine wifn (by decide) (wifn (by decide) (wifn (by decide) ?_))
  refine wif (fun g1 => ?_) (fun g1 => ?_) <;> rw [show (114 : Int32) = nI 114 from rfl, nI_eq (by omega) (by omega)] at g1
  · refine wif (fun g2 => ?_) (fun g2 => ?_) <;> rw [show (360 : Int32) = nI 360 from rfl, nI_leI (by omega) (by omega)] at g2
    · exact h0 (by omega)
    · exact h1 (by omega)
  · exact h0 (by omega)
theorem tl1 {fu c m : Nat} {lv ten : Int32} {rt : Nat → Int32} {Q : Int32 → Int32 → Int32 → Int32 → Int32 → (Nat → Int32) → Prop} (hc : c ≤ 255) (h1 : (c = 48 ∨ c = 49) → Q 1 0 (nI (c - 48)) (nI m) ten rt) (h0 : ¬ (c = 48 ∨ c = 49) → Q 0 0 (nI c - 48) (nI m) ten rt) : wp_X10_takeLetter fu (nI c) 1 lv (nI m) ten rt Q := by
  unfold wp_X10_takeLetter
  intro y ey
  subst ey
  refine wifp (by decide) ?_
  refine dg_ok (hi := 1) hc (by omega) rfl (fun g1 g2 e => ?_) (fun g => h0 (by omega))
  rw [e]
  exact h1 (by omega)
theorem tl2 {fu c m : Nat} {lv ten : Int32} {rt : Nat → Int32} {Q : Int32 → Int32 → Int32 → Int32 → Int32 → (Nat → Int32) → Prop} (hc : c ≤ 255) (hm : m < 360) (h1 : (48 ≤ c ∧ c ≤ 57) ∧ m + 10 * (c - 48) ≤ 360 → Q 1 3 lv (nI m) (nI (c - 48)) rt) (h0 : ¬ ((48 ≤ c ∧ c ≤ 57) ∧ m + 10 * (c - 48) ≤ 360) → Q 0 3 lv (nI m) (nI c - 48) rt) : wp_X10_takeLetter fu (nI c) 2 lv (nI m) ten rt Q := by
  unfold wp_X10_takeLetter
  intro y ey
  subst ey
  refine wifn (by decide) (wifp (by decide) ?_)
  refine dg_ok (hi := 9) hc (by omega) rfl (fun g1 g2 e => wifn (by decide) ?_) (fun g => wifp rfl (h0 (by omega)))
  rw [e] at h0 ⊢
  have e360 : (360 : Int32) = nI 360 := rfl
  unfold wX10_takeLetter_92
  refine wif (fun g3 => ?_) (fun g3 => ?_) <;> rw [show (0 : Int32) = nI 0 from rfl, nI_eq (by omega) (by omega)] at g3
  · refine wifn ?_ (h1 (by omega))
    rw [e360, show (1 : Int32) = nI 1 from rfl, nI_add, nI_ltI (by omega) (by omega)]; omega
  · rw [show (10 : Int32) = nI 10 from rfl, nI_mul, nI_add]
    refine wif (fun g4 => ?_) (fun g4 => ?_) <;> rw [e360, nI_ltI (by omega) (by omega)] at g4
    · exact h0 (by omega)
    · exact h1 (by omega)
theorem tl3_lp {fu m tn : Nat} {x1 lv part ten : Int32} {rt0 : Nat → Int32} {Q : Int32 → Int32 → Int32 → Int32 → Int32 → (Nat → Int32) → Prop} (hm : m + tn ≤ 360) (h : ∀ rt', (∀ i, i < m → rt' i = rt0 i) → (∀ i, m ≤ i → i < m + tn → rt' i = lv) → Q 1 0 (1 - lv) (nI (m + tn)) ten rt') :
    ∀ (j fuel k : Nat) (rt : Nat → Int32), k + j = tn → j < fuel → (∀ i, i < m → rt i = rt0 i) → (∀ i, m ≤ i → i < m + k → rt i = lv) → wX10_takeLetter_148 fu x1 Q fuel (nI tn) (nI k) part lv (nI m) ten rt := by
  intro j
  induction j with
  | zero =>
    intro fuel k rt hk hf h1 h2
    obtain ⟨f, rfl⟩ : ∃ f, fuel = f + 1 := ⟨fuel - 1, by omega⟩
    unfold wX10_takeLetter_148
    rw [nI_add]
    exact wifp (by rw [nI_leI (by omega) (by omega)]; omega) (h rt h1 (fun i hi1 hi2 => h2 i hi1 (by omega)))
  | succ j ih =>
    intro fuel k rt hk hf h1 h2
    obtain ⟨f, rfl⟩ : ∃ f, fuel = f + 1 := ⟨fuel - 1, by omega⟩
    unfold wX10_takeLetter_148
    refine wifn (by rw [nI_leI (by omega) (by omega)]; omega) ?_
    rw [nI_add]
    refine ⟨vin (by omega) (by omega), ?_⟩
    rw [show (1 : Int32) = nI 1 from rfl, nI_add, ix_nI (by omega)]
    refine ih f (k + 1) _ (by omega) (by omega) (fun i hi => ?_) (fun i hi1 hi2 => ?_)
    · rw [upd_n (by omega)]; exact h1 i hi
    · rw [upd_ite]
      by_cases e : i = m + k
      · rw [if_pos e]
      · rw [if_neg e]; exact h2 i hi1 (by omega)
theorem tl3 {fu c m tn : Nat} {lv : Int32} {rt : Nat → Int32} {Q : Int32 → Int32 → Int32 → Int32 → Int32 → (Nat → Int32) → Prop} (hfu : 400 ≤ fu) (hc : c ≤ 255) (hm : m ≤ 360) (ht : tn ≤ 9) (h1 : (48 ≤ c ∧ c ≤ 57) ∧ 10 * tn + (c - 48) ≠ 0 ∧ m + (10 * tn + (c - 48)) ≤ 360 → ∀ rt', (∀ i, i < m → rt' i = rt i) → (∀ i, m ≤ i → i < m + (10 * tn + (c - 48)) → rt' i = lv) → Q 1 0 (1 - lv) (nI (m + (10 * tn + (c - 48)))) (nI tn) rt') (h0 : ¬ ((48 ≤ c ∧ c ≤ 57) ∧ 10 * tn + (c - 48) ≠ 0 ∧ m + (10 * tn + (c - 48)) ≤ 360) → Q 0 3 lv (nI m) (nI tn) rt) : wp_X10_takeLetter fu (nI c) 3 lv (nI m) (nI tn) rt Q := by
  unfold wp_X10_takeLetter
  intro y ey
  subst ey
  refine wifn (by decide) (wifn (by decide) (wifp (by decide) ?_))
  intro z ez
  refine dg_ok (hi := 9) hc (by omega) rfl (fun g1 g2 e => wifn (by decide) ?_) (fun g => wifp rfl (h0 (by omega)))
  rw [e, show (10 : Int32) = nI 10 from rfl, nI_mul, nI_add] at ez
  subst ez
  refine wif (fun g3 => ?_) (fun g3 => ?_) <;> rw [show (0 : Int32) = nI 0 from rfl, nI_eq (by omega) (by omega)] at g3
  · exact h0 (by omega)
  · refine wif (fun g4 => ?_) (fun g4 => ?_) <;> rw [show (360 : Int32) = nI 360 from rfl, nI_add, nI_leI (by omega) (by omega)] at g4
    · exact tl3_lp g4 (h1 ⟨by omega, g3, g4⟩) (10 * tn + (c - 48)) fu 0 rt (by omega) (by omega) (fun i hi => rfl) (fun i hi1 hi2 => by omega)
    · exact h0 (by omega)
theorem rt_lp {fu n : Nat} {c : Nat → Nat} {te : Nat → Int32} {Q : Int32 → Int32 → Int32 → Int32 → Int32 → (Nat → Int32) → Prop} (hfu : 400 ≤ fu) (ht : TC n c te) : ∀ (f fuel p m : Nat) (lv ten : Int32) (L rt : Nat → Int32), 3 * f < fuel → n ≤ p + f → p < 400 → m ≤ 360 → p ≤ n → (∀ i, i < m → rt i = L i) →
    (scan c n f p m = none → ∀ pa lv' ten' rt', (∀ i, i < (LY c n f p m lv L).2 → rt' i = (LY c n f p m lv L).1 i) → Q (-9) pa lv' (nI (LY c n f p m lv L).2) ten' rt') →
    (∀ k, scan c n f p m = some k → ∀ pa lv' rm' ten' rt', Q (nI k) pa lv' rm' ten' rt') → wX10_readText_32 fu (nI n) te Q fuel (nI p) 0 lv (nI m) ten rt := by
  have hn := ht.1
  intro f
  induction f with
  | zero =>
    intro fuel p m lv ten L rt hf hnp hp hm hpn hr h1 h2
    obtain ⟨f, rfl⟩ : ∃ f, fuel = f + 1 := ⟨fuel - 1, by omega⟩
    unfold wX10_readText_32
    exact wifp (by rw [nI_leI (by omega) (by omega)]; omega) (wifp rfl (h1 rfl _ _ _ _ hr))
  | succ f ih =>
    intro fuel p m lv ten L rt hf hnp hp hm hpn hr h1 h2
    obtain ⟨fu', rfl⟩ : ∃ f, fuel = f + 3 := ⟨fuel - 3, by omega⟩
    unfold scan at h1 h2
    unfold LY at h1
    have e1 : (1 : Int32) = nI 1 := rfl
    unfold wX10_readText_32
    refine wif (fun g => ?_) (fun g => ?_) <;> rw [nI_leI (by omega) (by omega)] at g
    · rw [if_pos g] at h1
      rw [if_pos g] at h1
      exact wifp rfl (h1 rfl _ _ _ _ hr)
    · rw [if_neg g] at h1
      rw [if_neg g] at h1
      simp only [if_neg g] at h2
      have hc := ht.2 p (by omega)
      refine ⟨vin (by omega) (by omega), ?_⟩
      rw [ix_nI (by omega), hc.1]
      refine tl0 hc.2 hm (fun k1 => wifn (by decide) ?_) (fun k1 => wifp rfl ?_)
      · simp only [if_neg (not_not_intro k1)] at h1 h2
        rw [e1, nI_add]
        unfold wX10_readText_32
        refine wif (fun g2 => ?_) (fun g2 => ?_) <;> rw [nI_leI (by omega) (by omega)] at g2
        · have e : n = p + 1 := by omega
          refine wifn (by decide) ?_
          have k2 : ¬ (p + 1 < n ∧ (48 ≤ c (p + 1) ∧ c (p + 1) ≤ 57) ∧ m + 10 * (c (p + 1) - 48) ≤ 360) := by omega
          simp only [if_pos k2] at h2
          have h3 := h2 _ rfl 2 lv (nI m) ten rt
          rw [← e] at h3
          exact h3
        · have hc1 := ht.2 (p + 1) (by omega)
          refine ⟨vin (by omega) (by omega), ?_⟩
          rw [ix_nI (by omega), hc1.1]
          refine tl2 hc1.2 k1.2 (fun k2 => wifn (by decide) ?_) (fun k2 => wifp rfl ?_)
          · have k2' : p + 1 < n ∧ (48 ≤ c (p + 1) ∧ c (p + 1) ≤ 57) ∧ m + 10 * (c (p + 1) - 48) ≤ 360 := ⟨by omega, k2⟩
            simp only [if_neg (not_not_intro k2')] at h1 h2
            rw [e1, nI_add]
            unfold wX10_readText_32
            refine wif (fun g3 => ?_) (fun g3 => ?_) <;> rw [nI_leI (by omega) (by omega)] at g3
            · have e : n = p + 2 := by omega
              refine wifn (by decide) ?_
              have k3 : ¬ (p + 2 < n ∧ (48 ≤ c (p + 2) ∧ c (p + 2) ≤ 57) ∧ tol c p ≠ 0 ∧ m + tol c p ≤ 360) := by omega
              simp only [if_pos k3] at h2
              have h3 := h2 _ rfl 3 lv (nI m) (nI (c (p + 1) - 48)) rt
              rw [← e] at h3
              exact h3
            · have hc2 := ht.2 (p + 2) (by omega)
              refine ⟨vin (by omega) (by omega), ?_⟩
              rw [ix_nI (by omega), hc2.1]
              refine tl3 hfu hc2.2 hm (by omega) (fun k3 rt' r1 r2 => wifn (by decide) ?_) (fun k3 => wifp rfl ?_)
              · have k3' : p + 2 < n ∧ (48 ≤ c (p + 2) ∧ c (p + 2) ≤ 57) ∧ tol c p ≠ 0 ∧ m + tol c p ≤ 360 := ⟨by omega, k3⟩
                simp only [if_neg (not_not_intro k3')] at h1 h2
                rw [e1, nI_add]
                change wX10_readText_32 fu (nI n) te Q fu' (nI (p + 3)) 0 (1 - lv) (nI (m + tol c p)) _ rt'
                change ∀ i, m ≤ i → i < m + tol c p → rt' i = lv at r2
                refine ih fu' (p + 3) (m + tol c p) (1 - lv) _ (xt L m lv) rt' (by omega) (by omega) (by omega) k3'.2.2.2 (by omega) (fun i hi => ?_) h1 h2
                rw [xt]
                by_cases e : i < m
                · rw [if_pos e, r1 i e, hr i e]
                · rw [if_neg e]; exact r2 i (by omega) hi
              · have k3' : ¬ (p + 2 < n ∧ (48 ≤ c (p + 2) ∧ c (p + 2) ≤ 57) ∧ tol c p ≠ 0 ∧ m + tol c p ≤ 360) := fun q => k3 q.2
                simp only [if_pos k3'] at h2
                exact h2 _ rfl _ _ _ _ _
          · have k2' : ¬ (p + 1 < n ∧ (48 ≤ c (p + 1) ∧ c (p + 1) ≤ 57) ∧ m + 10 * (c (p + 1) - 48) ≤ 360) := fun q => k2 q.2
            simp only [if_pos k2'] at h2
            exact h2 _ rfl _ _ _ _ _
      · simp only [if_pos k1] at h2
        exact h2 _ rfl _ _ _ _ _
theorem readText_ok {fu n : Nat} {c : Nat → Nat} {te : Nat → Int32} {a1 a2 a3 a4 : Int32} {a5 : Nat → Int32} {Q : Int32 → Int32 → Int32 → Int32 → Int32 → (Nat → Int32) → Prop} (hfu : 1000 ≤ fu) (ht : TC n c te)
    (h1 : FF c n = none → ∀ pa lv' ten' rt', (∀ i, i < (TW c n).2 → rt' i = (TW c n).1 i) → Q (-9) pa lv' (nI (TW c n).2) ten' rt')
    (h2 : ∀ k, FF c n = some k → ∀ pa lv' rm' ten' rt', Q (nI k) pa lv' rm' ten' rt') : wp_X10_readText fu (nI n) te a1 a2 a3 a4 a5 Q := by
  have hn := ht.1
  unfold wp_X10_readText
  unfold FF at h1 h2
  refine wif (fun g => ?_) (fun g => ?_) <;> rw [show (0 : Int32) = nI 0 from rfl, nI_eq (by omega) (by omega)] at g
  · have k1 : ¬ (0 < n ∧ c 0 = 83) := by omega
    simp only [if_pos k1] at h2
    exact h2 0 rfl _ _ _ _ _
  · have hc := ht.2 0 (by omega)
    rw [show ix (0 : Int32) = 0 from rfl, hc.1]
    refine wif (fun g1 => ?_) (fun g1 => ?_) <;> rw [show (83 : Int32) = nI 83 from rfl, nI_eq (by omega) (by omega)] at g1
    · have k1 : 0 < n ∧ c 0 = 83 := ⟨by omega, g1⟩
      simp only [if_neg (not_not_intro k1)] at h1 h2
      obtain ⟨f, rfl⟩ : ∃ f, fu = f + 1 := ⟨fu - 1, by omega⟩
      unfold wX10_readText_32
      refine wif (fun g2 => ?_) (fun g2 => ?_) <;> rw [show (1 : Int32) = nI 1 from rfl, nI_leI (by omega) (by omega)] at g2
      · have k2 : ¬ (1 < n ∧ (c 1 = 48 ∨ c 1 = 49)) := by omega
        simp only [if_pos k2] at h2
        have e : n = 1 := by omega
        refine wifn (by decide) ?_
        have h3 := h2 _ rfl 1 a2 0 a4 a5
        rw [← e] at h3
        exact h3
      · have hc1 := ht.2 1 (by omega)
        refine ⟨vin (n := 1) (by omega) (by omega), ?_⟩
        rw [show ix (1 : Int32) = 1 from rfl, hc1.1]
        refine tl1 (m := 0) hc1.2 (fun k2 => wifn (by decide) ?_) (fun k2 => wifp rfl ?_)
        · have k2' : 1 < n ∧ (c 1 = 48 ∨ c 1 = 49) := ⟨by omega, k2⟩
          simp only [if_neg (not_not_intro k2')] at h1 h2
          exact rt_lp (by omega) ht 200 f 2 0 _ _ (fun _ => 0) _ (by omega) (by omega) (by omega) (by omega) (by omega) (fun i hi => by omega) h1 h2
        · have k2' : ¬ (1 < n ∧ (c 1 = 48 ∨ c 1 = 49)) := fun q => k2 q.2
          simp only [if_pos k2'] at h2
          exact h2 1 rfl _ _ _ _ _
    · have k1 : ¬ (0 < n ∧ c 0 = 83) := fun q => g1 q.2
      simp only [if_pos k1] at h2
      exact h2 0 rfl _ _ _ _ _
