/-! least terms -/
def lst (A B : Nat) (x2 : Int32) : Int32 := if x2 = 0 then nI (B / Nat.gcd A B) else nI (A / Nat.gcd A B)
theorem gcd_step (x y : Nat) : Nat.gcd x y = Nat.gcd y (x % y) := by
  rw [Nat.gcd_comm, Nat.gcd_rec y x, Nat.gcd_comm]
theorem mod_half {y z : Nat} (h0 : 0 < z) (h : z < y) : 2 * (y % z) < y := by
  have h1 := Nat.mod_lt y h0
  have h2 := Nat.div_add_mod y z
  have h3 : 1 ≤ y / z := (Nat.le_div_iff_mul_le h0).mpr (by omega)
  have h4 : z * 1 ≤ z * (y / z) := Nat.mul_le_mul_left z h3
  omega
theorem gcdC_lp {fu : Nat} {a b : Int32} {Q : Int32 → Prop} : ∀ (j x y k fuel : Nat), y < 2 ^ j → k + 2 * j < 64 → 2 * j < fuel → x < 2 ^ 31 → y < 2 ^ 31 → Q (nI (Nat.gcd x y)) → wX9_greatestCommonDivisor_7 fu a b Q fuel (nI x) (nI y) (nI k) := by
  intro j
  induction j with
  | zero =>
    intro x y k fuel hy hk hf hx hy2 h
    obtain ⟨f, rfl⟩ : ∃ f, fuel = f + 1 := ⟨fuel - 1, by omega⟩
    obtain rfl : y = 0 := by omega
    rw [Nat.gcd_zero_right] at h
    unfold wX9_greatestCommonDivisor_7
    exact wif (fun _ => h) (fun _ => wifp rfl h)
  | succ j ih =>
    intro x y k fuel hy hk hf hx hy2 h
    obtain ⟨f, rfl⟩ : ∃ f, fuel = f + 2 := ⟨fuel - 2, by omega⟩
    have e64 : ∀ q, q < 64 → ¬ (64 : Int32) ≤ nI q := fun q hq => by rw [show (64 : Int32) = nI 64 from rfl, nI_leI (by omega) (by omega)]; omega
    unfold wX9_greatestCommonDivisor_7
    refine wifn (e64 _ (by omega)) ?_
    by_cases c : y = 0
    · subst c
      rw [Nat.gcd_zero_right] at h
      exact wifp rfl h
    · have hne : ¬ nI y = 0 := by rw [show (0 : Int32) = nI 0 from rfl, nI_eq (by omega) (by omega)]; omega
      refine wifn hne ⟨hne, fun z ez => ?_⟩
      rw [irm_nI hx (by omega) hy2] at ez
      subst ez
      have hz := Nat.mod_lt x (show 0 < y by omega)
      rw [gcd_step] at h
      rw [show (1 : Int32) = nI 1 from rfl, nI_add]
      unfold wX9_greatestCommonDivisor_7
      refine wifn (e64 _ (by omega)) ?_
      by_cases c2 : x % y = 0
      · rw [c2, Nat.gcd_zero_right] at h
        rw [c2]
        exact wifp rfl h
      · have hne2 : ¬ nI (x % y) = 0 := by rw [show (0 : Int32) = nI 0 from rfl, nI_eq (by omega) (by omega)]; omega
        refine wifn hne2 ⟨hne2, fun w ew => ?_⟩
        rw [irm_nI hy2 (by omega) (by omega)] at ew
        subst ew
        rw [gcd_step] at h
        rw [show (1 : Int32) = nI 1 from rfl, nI_add]
        have hh := mod_half (y := y) (z := x % y) (by omega) hz
        have hw := Nat.mod_lt y (show 0 < x % y by omega)
        refine ih (x % y) (y % (x % y)) (k + 1 + 1) f ?_ (by omega) (by omega) (by omega) (by omega) h
        rw [Nat.pow_succ] at hy
        omega
theorem inLeastTerms_ok {fu A B : Nat} {x2 : Int32} {Q : Int32 → Prop} (hfu : 400 ≤ fu) (hA : A < 2 ^ 31) (hB : 0 < B) (hB2 : B < 2 ^ 20) (h : Q (lst A B x2)) : wp_X9_inLeastTerms fu (nI A) (nI B) x2 Q := by
  unfold wp_X9_inLeastTerms
  have g0 : 0 < Nat.gcd A B := Nat.gcd_pos_of_pos_right A hB
  have g1 : Nat.gcd A B ≤ B := Nat.gcd_le_right A hB
  have key : ∀ X, X < 2 ^ 31 → Q (nI (X / Nat.gcd A B)) → wX9_inLeastTerms_9 fu (nI A) (nI B) x2 Q (nI X) := by
    intro X hX hq
    unfold wX9_inLeastTerms_9 wp_X9_greatestCommonDivisor
    refine gcdC_lp 20 A B 0 fu hB2 (by omega) (by omega) hA (by omega) ?_
    refine wifn (by rw [show (0 : Int32) = nI 0 from rfl, nI_leI (by omega) (by omega)]; omega) ⟨by rw [show (0 : Int32) = nI 0 from rfl, nI_eq (by omega) (by omega)]; omega, ?_⟩
    rw [nI_div hX g0 (by omega)]
    exact hq
  unfold lst at h
  refine wif (fun c => ?_) (fun c => ?_)
  · rw [if_pos c] at h; exact key B (by omega) h
  · rw [if_neg c] at h; exact key A hA h
theorem frc_lp {fu A B : Nat} {x2 : Int32} {Q : Int32 → Prop} (hA : A < 2 ^ 31) (hB : 0 < B) (hB2 : B < 2 ^ 20) (h : Q (lst A B x2)) : ∀ (j x y fuel : Nat), y < 2 ^ j → 2 * j < fuel → x < 2 ^ 31 → y < 2 ^ 31 → Nat.gcd x y = Nat.gcd A B → wX10_fraction_14 fu (nI A) (nI B) x2 Q fuel (nI x) (nI y) := by
  have g0 : 0 < Nat.gcd A B := Nat.gcd_pos_of_pos_right A hB
  have g1 : Nat.gcd A B ≤ B := Nat.gcd_le_right A hB
  have fin : ∀ x, x = Nat.gcd A B → (if x2 = 0 then (¬ nI x = 0 ∧ Q (nI B / nI x)) else (¬ nI x = 0 ∧ Q (nI A / nI x))) := by
    intro x ex
    subst ex
    have hne : ¬ nI (Nat.gcd A B) = 0 := by rw [show (0 : Int32) = nI 0 from rfl, nI_eq (by omega) (by omega)]; omega
    unfold lst at h
    refine wif (fun c => ?_) (fun c => ?_)
    · rw [if_pos c] at h
      rw [nI_div (by omega) g0 (by omega)]
      exact ⟨hne, h⟩
    · rw [if_neg c] at h
      rw [nI_div hA g0 (by omega)]
      exact ⟨hne, h⟩
  intro j
  induction j with
  | zero =>
    intro x y fuel hy hf hx hy2 hg
    obtain ⟨f, rfl⟩ : ∃ f, fuel = f + 1 := ⟨fuel - 1, by omega⟩
    obtain rfl : y = 0 := by omega
    rw [Nat.gcd_zero_right] at hg
    unfold wX10_fraction_14
    exact wifp rfl (fin x hg)
  | succ j ih =>
    intro x y fuel hy hf hx hy2 hg
    obtain ⟨f, rfl⟩ : ∃ f, fuel = f + 2 := ⟨fuel - 2, by omega⟩
    unfold wX10_fraction_14
    by_cases c : y = 0
    · subst c
      rw [Nat.gcd_zero_right] at hg
      exact wifp rfl (fin x hg)
    · have hne : ¬ nI y = 0 := by rw [show (0 : Int32) = nI 0 from rfl, nI_eq (by omega) (by omega)]; omega
      refine wifn hne ⟨hne, fun z ez => ?_⟩
      rw [irm_nI hx (by omega) hy2] at ez
      subst ez
      have hz := Nat.mod_lt x (show 0 < y by omega)
      rw [gcd_step] at hg
      unfold wX10_fraction_14
      by_cases c2 : x % y = 0
      · rw [c2, Nat.gcd_zero_right] at hg
        rw [c2]
        exact wifp rfl (fin y hg)
      · have hne2 : ¬ nI (x % y) = 0 := by rw [show (0 : Int32) = nI 0 from rfl, nI_eq (by omega) (by omega)]; omega
        refine wifn hne2 ⟨hne2, fun w ew => ?_⟩
        rw [irm_nI hy2 (by omega) (by omega)] at ew
        subst ew
        rw [gcd_step] at hg
        have hh := mod_half (y := y) (z := x % y) (by omega) hz
        have hw := Nat.mod_lt y (show 0 < x % y by omega)
        refine ih (x % y) (y % (x % y)) f ?_ (by omega) (by omega) (by omega) hg
        rw [Nat.pow_succ] at hy
        omega
theorem fraction_ok {fu A B : Nat} {x2 : Int32} {Q : Int32 → Prop} (hfu : 400 ≤ fu) (hA : A < 2 ^ 31) (hB : 0 < B) (hB2 : B < 2 ^ 20) (h : Q (lst A B x2)) : wp_X10_fraction fu (nI A) (nI B) x2 Q := by
  unfold wp_X10_fraction
  refine wifp (by rw [show (0 : Int32) = nI 0 from rfl, nI_leI (by omega) (by omega)]; omega) ?_
  unfold wX10_fraction_10
  exact frc_lp hA hB hB2 h 20 A B fu hB2 (by omega) hA (by omega) rfl
theorem lst_same {A B A' B' : Nat} {x2 : Int32} (hB : 0 < B) (hB' : 0 < B') (h : A * B' = A' * B) : lst A B x2 = lst A' B' x2 := by
  have g0 : 0 < Nat.gcd A B := Nat.gcd_pos_of_pos_right A hB
  have g0' : 0 < Nat.gcd A' B' := Nat.gcd_pos_of_pos_right A' hB'
  have e1 : Nat.gcd A B * B' = B * Nat.gcd A' B' := by
    rw [← Nat.gcd_mul_right, h, Nat.mul_comm A' B, Nat.gcd_mul_left]
  have e2 : Nat.gcd A B * A' = A * Nat.gcd A' B' := by
    rw [← Nat.gcd_mul_right, Nat.mul_comm B A', ← h, Nat.gcd_mul_left]
  have f1 : B / Nat.gcd A B = B' / Nat.gcd A' B' := by
    obtain ⟨b, eb⟩ := Nat.gcd_dvd_right A B
    obtain ⟨b', eb'⟩ := Nat.gcd_dvd_right A' B'
    have e3 : Nat.gcd A B * (Nat.gcd A' B' * b') = (Nat.gcd A B * b) * Nat.gcd A' B' := by rw [← eb, ← eb']; exact e1
    have e4 : b' = b := by
      rw [Nat.mul_assoc, Nat.mul_comm b] at e3
      exact Nat.eq_of_mul_eq_mul_left g0' (Nat.eq_of_mul_eq_mul_left g0 e3)
    have q1 : B / Nat.gcd A B = b := Nat.div_eq_of_eq_mul_right g0 eb
    have q2 : B' / Nat.gcd A' B' = b' := Nat.div_eq_of_eq_mul_right g0' eb'
    rw [q1, q2, e4]
  have f2 : A / Nat.gcd A B = A' / Nat.gcd A' B' := by
    obtain ⟨b, eb⟩ := Nat.gcd_dvd_left A B
    obtain ⟨b', eb'⟩ := Nat.gcd_dvd_left A' B'
    have e3 : Nat.gcd A B * (Nat.gcd A' B' * b') = (Nat.gcd A B * b) * Nat.gcd A' B' := by rw [← eb, ← eb']; exact e2
    have e4 : b' = b := by
      rw [Nat.mul_assoc, Nat.mul_comm b] at e3
      exact Nat.eq_of_mul_eq_mul_left g0' (Nat.eq_of_mul_eq_mul_left g0 e3)
    have q1 : A / Nat.gcd A B = b := Nat.div_eq_of_eq_mul_right g0 eb
    have q2 : A' / Nat.gcd A' B' = b' := Nat.div_eq_of_eq_mul_right g0' eb'
    rw [q1, q2, e4]
  unfold lst
  rw [f1, f2]
/-! small numbers: ones, factorials, powers -/
theorem ones_lp {fu m : Nat} {Q : Int32 → Prop} (hm : m < 2 ^ 31) (h : Q (nI (onn m 8))) : ∀ (j fuel k : Nat), k + j = 8 → j < fuel → wX10_ones_4 fu (nI m) Q fuel (nI (onn m k)) (nI k) := by
  intro j
  induction j with
  | zero =>
    intro fuel k hk hf
    obtain ⟨f, rfl⟩ : ∃ f, fuel = f + 1 := ⟨fuel - 1, by omega⟩
    obtain rfl : k = 8 := by omega
    unfold wX10_ones_4
    exact wifp (by decide) h
  | succ j ih =>
    intro fuel k hk hf
    obtain ⟨f, rfl⟩ : ∃ f, fuel = f + 1 := ⟨fuel - 1, by omega⟩
    unfold wX10_ones_4
    refine wifn (by rw [show (8 : Int32) = nI 8 from rfl, nI_leI (by omega) (by omega)]; omega) (fun y ey => ?_)
    rw [shr_and hm (by omega), nI_add] at ey
    subst ey
    rw [show (1 : Int32) = nI 1 from rfl, nI_add]
    exact ih f (k + 1) (by omega) (by omega)
theorem ones_ok {fu m : Nat} {Q : Int32 → Prop} (hfu : 400 ≤ fu) (hm : m < 2 ^ 31) (h : Q (nI (onn m 8))) : wp_X10_ones fu (nI m) Q :=
  ones_lp hm h 8 fu 0 (by omega) (by omega)
def fct : Nat → Nat
  | 0 => 1
  | k + 1 => fct k * (k + 1)
theorem fct_lp {fu n : Nat} {Q : Int32 → Prop} (hn : n ≤ 1000) (h : Q (nI (fct n))) : ∀ (j fuel k : Nat), k + j = n → j < fuel → wX10_factorial_4 fu (nI n) Q fuel (nI (fct k)) (nI (k + 1)) := by
  intro j
  induction j with
  | zero =>
    intro fuel k hk hf
    obtain ⟨f, rfl⟩ : ∃ f, fuel = f + 1 := ⟨fuel - 1, by omega⟩
    obtain rfl : k = n := by omega
    unfold wX10_factorial_4
    exact wifp (by rw [nI_ltI (by omega) (by omega)]; omega) h
  | succ j ih =>
    intro fuel k hk hf
    obtain ⟨f, rfl⟩ : ∃ f, fuel = f + 1 := ⟨fuel - 1, by omega⟩
    unfold wX10_factorial_4
    refine wifn (by rw [nI_ltI (by omega) (by omega)]; omega) (fun y ey => ?_)
    rw [nI_mul] at ey
    subst ey
    rw [show (1 : Int32) = nI 1 from rfl, nI_add]
    exact ih f (k + 1) (by omega) (by omega)
theorem factorial_ok {fu n : Nat} {Q : Int32 → Prop} (hfu : 400 ≤ fu) (hn : n ≤ 100) (h : Q (nI (fct n))) : wp_X10_factorial fu (nI n) Q := by
  unfold wp_X10_factorial
  cases n with
  | zero =>
    obtain ⟨f, rfl⟩ : ∃ f, fu = f + 1 := ⟨fu - 1, by omega⟩
    unfold wX10_factorial_4
    exact wifp (by decide) h
  | succ n => exact fct_lp (by omega) h n fu 1 (by omega) (by omega)
theorem power_lp {fu a n : Nat} {Q : Int32 → Prop} (hn : n ≤ 1000) (h : Q (nI (a ^ n))) : ∀ (j fuel k : Nat), k + j = n → j < fuel → wX10_power_4 fu (nI a) (nI n) Q fuel (nI (a ^ k)) (nI k) := by
  intro j
  induction j with
  | zero =>
    intro fuel k hk hf
    obtain ⟨f, rfl⟩ : ∃ f, fuel = f + 1 := ⟨fuel - 1, by omega⟩
    obtain rfl : k = n := by omega
    unfold wX10_power_4
    exact wifp (by rw [nI_leI (by omega) (by omega)]; omega) h
  | succ j ih =>
    intro fuel k hk hf
    obtain ⟨f, rfl⟩ : ∃ f, fuel = f + 1 := ⟨fuel - 1, by omega⟩
    unfold wX10_power_4
    refine wifn (by rw [nI_leI (by omega) (by omega)]; omega) (fun y ey => ?_)
    rw [nI_mul, ← Nat.pow_succ] at ey
    subst ey
    rw [show (1 : Int32) = nI 1 from rfl, nI_add]
    exact ih f (k + 1) (by omega) (by omega)
theorem power_ok {fu a n : Nat} {Q : Int32 → Prop} (hfu : 400 ≤ fu) (hn : n ≤ 100) (h : Q (nI (a ^ n))) : wp_X10_power fu (nI a) (nI n) Q :=
  power_lp (by omega) h n fu 0 (by omega) (by omega)
/-! a count of bits -/
def bcv (x0 : Int32) : Int32 :=
  let y1 := x0 - ((ush x0 (1 : Int32)) &&& (1431655765 : Int32))
  let y2 := (y1 &&& (858993459 : Int32)) + ((ush y1 (2 : Int32)) &&& (858993459 : Int32))
  let y3 := (y2 + (ush y2 (4 : Int32))) &&& (252645135 : Int32)
  let y4 := y3 + (ush y3 (8 : Int32))
  let y5 := y4 + (ush y4 (16 : Int32))
  y5 &&& (63 : Int32)
theorem bcv_ok : ∀ m, m < 32 → bcv (nI m) = nI (onn m 8) := by decide +kernel
theorem bitCount_ok {fu m : Nat} {Q : Int32 → Prop} (hm : m < 32) (h : Q (nI (onn m 8))) : wp_J6_bitCount_0f7a4 fu (nI m) Q := by
  unfold wp_J6_bitCount_0f7a4
  intro y1 e1 y2 e2 y3 e3 y4 e4 y5 e5
  subst e1 e2 e3 e4 e5
  have e := bcv_ok m hm
  rw [← e] at h
  exact h
