/-! pure rows: numbers -/
theorem wif {c A B : Prop} {ic : Decidable c} (hp : c → A) (hn : ¬ c → B) : @ite Prop c ic A B := by
  by_cases h : c
  · rw [if_pos h]; exact hp h
  · rw [if_neg h]; exact hn h
theorem wifp {c A B : Prop} {ic : Decidable c} (h : c) (hp : A) : @ite Prop c ic A B := by rw [if_pos h]; exact hp
theorem wifn {c A B : Prop} {ic : Decidable c} (h : ¬ c) (hp : B) : @ite Prop c ic A B := by rw [if_neg h]; exact hp
theorem lit_nI (n : Nat) : (OfNat.ofNat n : Int32) = nI (OfNat.ofNat n) := rfl
theorem ix_nI {n : Nat} (h : n < 2 ^ 31) : ix (nI n) = n := nI_clamp h
theorem nI_sub {a b : Nat} (h : b ≤ a) : nI a - nI b = nI (a - b) := pk_sub h
theorem nI_mul (a b : Nat) : nI a * nI b = nI (a * b) := pk_mul a b
theorem nI_div {a d : Nat} (ha : a < 2 ^ 31) (h0 : 0 < d) (hd : d < 2 ^ 31) : nI a / nI d = nI (a / d) := pk_div ha h0 hd
theorem irm_nI {a d : Nat} (ha : a < 2 ^ 31) (h0 : 0 < d) (hd : d < 2 ^ 31) : irm (nI a) (nI d) = nI (a % d) := pk_rem ha h0 hd
theorem vin {n N : Nat} (h : n < N) (hN : N < 2 ^ 31) : vp_in (nI n) N := vp_in_nI h hN
theorem upd_s {f : Nat → Int32} {k : Nat} {x : Int32} : upd f k x k = x := pk_us
theorem upd_n {f : Nat → Int32} {k j : Nat} {x : Int32} (h : j ≠ k) : upd f k x j = f j := pk_un h
theorem upd_ite (f : Nat → Int32) (k j : Nat) (x : Int32) : upd f k x j = if j = k then x else f j := by
  by_cases h : j = k
  · rw [if_pos h, h, upd_s]
  · rw [if_neg h, upd_n h]
theorem nI_n9 {n : Nat} (h : n < 2 ^ 31) : (nI n = -nI 9) = False := by
  apply eq_false
  intro e
  have h1 := congrArg Int32.toInt e
  rw [nI_toInt h, show (-nI 9).toInt = -9 by decide] at h1
  omega
theorem nI_small {x : Int32} {n : Nat} (h0 : ¬ x < 0) (h1 : x ≤ nI n) (hn : n < 2 ^ 31) : ∃ j : Nat, j ≤ n ∧ x = nI j := by
  obtain ⟨j, hj, e⟩ := nI_of h0
  refine ⟨j, ?_, e⟩
  rw [e, nI_leI hj hn] at h1
  exact h1
theorem in_ok {fu : Nat} {x : Int32} {lo hi : Int64} {Q : Int32 → Prop} (h1 : lo.toInt ≤ x.toInt ∧ x.toInt ≤ hi.toInt → Q 1) (h2 : ¬ (lo.toInt ≤ x.toInt ∧ x.toInt ≤ hi.toInt) → Q 0) : wp_X10_in fu (Int32.toInt64 x) lo hi Q := by
  unfold wp_X10_in
  refine wif (fun c => h2 ?_) (fun c => wif (fun c2 => h2 ?_) (fun c2 => h1 ?_))
  · rw [lg_cmp_lt, Int64.lt_iff_toInt_lt, Int32.toInt_toInt64] at c
    omega
  · rw [lg_cmp_gt, Int64.lt_iff_toInt_lt, Int32.toInt_toInt64] at c2
    omega
  · rw [lg_cmp_lt, Int64.lt_iff_toInt_lt, Int32.toInt_toInt64] at c
    rw [lg_cmp_gt, Int64.lt_iff_toInt_lt, Int32.toInt_toInt64] at c2
    omega
theorem i64_nI {n : Nat} (h : n < 2 ^ 31) : (Int32.toInt64 (nI n)).toInt = n := by rw [Int32.toInt_toInt64, nI_toInt h]
theorem toInt_lt0 {x : Int32} : x < 0 ↔ x.toInt < 0 := Int32.lt_iff_toInt_lt
/-- an int is below 0, at most n, or above n -/
theorem i3 (x : Int32) (n : Nat) (hn : n < 2 ^ 31) : x < 0 ∨ nI n < x ∨ ∃ j : Nat, j ≤ n ∧ x = nI j := by
  by_cases h : x < 0
  · exact Or.inl h
  · by_cases h2 : nI n < x
    · exact Or.inr (Or.inl h2)
    · refine Or.inr (Or.inr (nI_small h ?_ hn))
      rw [Int32.le_iff_toInt_le]
      rw [Int32.lt_iff_toInt_lt] at h2
      omega
/-! wires: of the class (levels, ticks), of the reference (a row of 361), and what they tell: L below t -/
def CW (lev : Nat → Int32) (tk : Int32) (L : Nat → Int32) (t : Nat) : Prop := tk = nI t ∧ t ≤ 360 ∧ ∀ i, i < t → lev i = L i
def MW (row : Nat → Int32) (L : Nat → Int32) (t : Nat) : Prop := row 360 = nI t ∧ t ≤ 360 ∧ ∀ i, i < t → row i = L i
def Bt (L : Nat → Int32) (t : Nat) : Prop := ∀ i, i < t → L i = 0 ∨ L i = 1
def xt (L : Nat → Int32) (t : Nat) (x : Int32) : Nat → Int32 := fun i => if i < t then L i else x
def fl (L : Nat → Int32) (j : Nat) : Nat → Int32 := fun i => if i = j then 1 - L i else L i
theorem Bt_xt {L : Nat → Int32} {t n : Nat} {x : Int32} (h : Bt L t) (hx : x = 0 ∨ x = 1) : Bt (xt L t x) n := by
  intro i hi
  unfold xt
  by_cases c : i < t
  · rw [if_pos c]; exact h i c
  · rw [if_neg c]; exact hx
theorem Bt_fl {L : Nat → Int32} {t j : Nat} (h : Bt L t) : Bt (fl L j) t := by
  intro i hi
  unfold fl
  by_cases c : i = j
  · rw [if_pos c]
    rcases h i hi with e | e <;> rw [e]
    · exact Or.inr rfl
    · exact Or.inl rfl
  · rw [if_neg c]; exact h i hi
/-! the class's wire -/
theorem has_ok {fu t j : Nat} {Q : Int32 → Prop} (ht : t ≤ 360) (hj : j < 2 ^ 31) (h1 : j < t → Q 1) (h0 : t ≤ j → Q 0) : wp_X8_has fu (nI t) (nI j) Q := by
  unfold wp_X8_has
  refine wifn (nI_pos hj) (wif (fun c => h0 ?_) (fun c => h1 ?_))
  · rwa [nI_leI (by omega) hj] at c
  · rw [nI_leI (by omega) hj] at c; omega
theorem levelAt_ok {fu t j : Nat} {lev L : Nat → Int32} {Q : Int32 → Prop} (hw : CW lev (nI t) L t) (hj : j < t) (h : Q (L j)) : wp_X8_levelAt fu (nI t) lev (nI j) Q := by
  obtain ⟨-, ht, hl⟩ := hw
  unfold wp_X8_levelAt
  refine wifn (nI_pos (by omega)) (wifn (by rw [nI_leI (by omega) (by omega)]; omega) ⟨vin (by omega) (by omega), ?_⟩)
  rw [ix_nI (by omega), hl j hj]
  exact h
theorem hasPlaceFor_ok {fu t n : Nat} {Q : Int32 → Prop} (ht : t ≤ 360) (hn : n < 2 ^ 30) (h1 : t + n ≤ 360 → Q 1) (h0 : 360 < t + n → Q 0) : wp_X8_hasPlaceFor fu (nI t) (nI n) Q := by
  unfold wp_X8_hasPlaceFor
  simp (disch := omega) only [lit_nI, nI_sub, nI_ltI]
  refine wif (fun c => ?_) (fun c => ?_)
  · exact h0 (by omega)
  · exact h1 (by omega)
theorem turnOver_ok {fu t j : Nat} {lev L : Nat → Int32} {Q : (Nat → Int32) → Prop} (hw : CW lev (nI t) L t) (hj : j < t) (h : ∀ lev', CW lev' (nI t) (fl L j) t → Q lev') : wp_X8_turnOver fu (nI t) (nI j) lev Q := by
  obtain ⟨-, ht, hl⟩ := hw
  unfold wp_X8_turnOver
  refine has_ok ht (by omega) (fun _ => ?_) (fun c => by omega)
  refine wifn (by decide) ⟨vin (by omega) (by omega), vin (by omega) (by omega), h _ ⟨rfl, ht, fun i hi => ?_⟩⟩
  rw [ix_nI (by omega), upd_ite, fl]
  by_cases c : i = j
  · rw [if_pos c, if_pos c, c, hl j hj]
  · rw [if_neg c, if_neg c, hl i hi]
theorem shorten_ok {fu t n : Nat} {Q : Int32 → Prop} (ht : t ≤ 360) (hn : n < 2 ^ 30) (h : Q (nI (t - n))) : wp_X8_shorten fu (nI n) (nI t) Q := by
  unfold wp_X8_shorten imx
  by_cases c : n ≤ t
  · rw [nI_sub c, show (0 : Int32) = nI 0 from rfl]
    by_cases c2 : t - n = 0
    · rw [if_neg (by rw [nI_ltI (by omega) (by omega)]; omega), ← c2]; exact h
    · rw [if_pos (by rw [nI_ltI (by omega) (by omega)]; omega)]; exact h
  · have e : t - n = 0 := by omega
    rw [e] at h
    rw [if_neg]
    · exact h
    · intro hc
      have h1 : nI t - nI n < 0 := pk_sneg (by omega) (by omega)
      rw [Int32.lt_iff_toInt_lt] at hc h1
      omega
theorem copy_ok {fu t : Nat} {lev lev0 L : Nat → Int32} {tk0 : Int32} {Q : Int32 → (Nat → Int32) → Prop} (hw : CW lev (nI t) L t) (h : ∀ lev', CW lev' (nI t) L t → Q (nI t) lev') : wp_X8_copy fu (nI t) lev tk0 lev0 Q := by
  obtain ⟨-, ht, hl⟩ := hw
  unfold wp_X8_copy
  refine h _ ⟨rfl, ht, fun i hi => ?_⟩
  rw [pk_cpy_in (Nat.zero_le _) (by omega)]
  rw [show 0 + (i - 0) = i by omega]
  exact hl i hi
theorem extend_lp {fu n : Nat} {x1 : Int32} {Q : Int32 → (Nat → Int32) → Prop} (hn : n ≤ 1000) : ∀ (j fuel k t : Nat) (lev L : Nat → Int32), k + j = n → j < fuel → t + j ≤ 360 → CW lev (nI t) L t → (∀ lev', CW lev' (nI (t + j)) (xt L t x1) (t + j) → Q (nI (t + j)) lev') → wX8_extend_2 fu x1 (nI n) Q fuel (nI k) (nI t) lev := by
  intro j
  induction j with
  | zero =>
    intro fuel k t lev L hk hf ht hw h
    obtain ⟨f, rfl⟩ : ∃ f, fuel = f + 1 := ⟨fuel - 1, by omega⟩
    unfold wX8_extend_2
    refine wifp (by rw [nI_leI (by omega) (by omega)]; omega) (h _ ⟨rfl, ht, fun i hi => ?_⟩)
    rw [xt, if_pos (by omega)]
    exact hw.2.2 i (by omega)
  | succ j ih =>
    intro fuel k t lev L hk hf ht hw h
    obtain ⟨f, rfl⟩ : ∃ f, fuel = f + 1 := ⟨fuel - 1, by omega⟩
    unfold wX8_extend_2
    refine wifn (by rw [nI_leI (by omega) (by omega)]; omega) ?_
    refine wifn (by simp (disch := omega) only [lit_nI, nI_leI]; omega) ⟨vin (by omega) (by omega), ?_⟩
    simp (disch := omega) only [lit_nI, nI_add, ix_nI]
    refine ih f (k + 1) (t + 1) _ (xt L t x1) (by omega) (by omega) (by omega) ⟨rfl, by omega, fun i hi => ?_⟩ (fun lev' hw' => ?_)
    · rw [upd_ite, xt]
      by_cases c : i = t
      · rw [if_pos c, if_neg (by omega)]
      · rw [if_neg c, if_pos (by omega)]; exact hw.2.2 i (by omega)
    · have e : t + 1 + j = t + (j + 1) := by omega
      rw [e] at hw' ⊢
      refine h lev' ⟨rfl, ht, fun i hi => ?_⟩
      rw [hw'.2.2 i hi]
      unfold xt
      by_cases c : i < t
      · rw [if_pos (by omega), if_pos c]
      · by_cases c2 : i < t + 1
        · rw [if_pos c2]
        · rw [if_neg c2, if_neg c]
theorem extend_ok {fu n t : Nat} {x1 : Int32} {lev L : Nat → Int32} {Q : Int32 → (Nat → Int32) → Prop} (hf : 400 ≤ fu) (hw : CW lev (nI t) L t) (ht : t + n ≤ 360) (h : ∀ lev', CW lev' (nI (t + n)) (xt L t x1) (t + n) → Q (nI (t + n)) lev') : wp_X8_extend fu x1 (nI n) (nI t) lev Q :=
  extend_lp (by omega) n fu 0 t lev L (by omega) (by omega) ht hw h
/-! the reference's row -/
theorem isTick_ok {fu t : Nat} {row L : Nat → Int32} {x : Int32} {Q : Int32 → Prop} (hw : MW row L t) (h1 : ∀ j, j < t → x = nI j → Q 1) (h0 : (x < 0 ∨ nI t ≤ x) → Q 0) : wp_X10_isTick fu row x Q := by
  obtain ⟨hr, ht, -⟩ := hw
  unfold wp_X10_isTick
  have e : (Int32.toInt64 (row (ix (360 : Int32)) - (1 : Int32))).toInt = (t : Int) - 1 := by
    rw [Int32.toInt_toInt64, show ix (360 : Int32) = 360 from rfl, hr, show (1 : Int32) = nI 1 from rfl, pk_sub_toInt (by omega) (by omega)]
    omega
  refine in_ok (fun c => ?_) (fun c => ?_)
  · rw [e] at c
    obtain ⟨c1, c2⟩ := c
    have c1' : (0 : Int64).toInt = 0 := rfl
    rw [c1'] at c1
    obtain ⟨j, hj, ej⟩ := nI_of (x := x) (by rw [toInt_lt0]; omega)
    rw [ej, nI_toInt hj] at c2
    exact h1 j (by omega) ej
  · rw [e] at c
    have c1' : (0 : Int64).toInt = 0 := rfl
    rw [c1'] at c
    refine h0 ?_
    by_cases g : x < 0
    · exact Or.inl g
    · refine Or.inr ?_
      obtain ⟨j, hj, ej⟩ := nI_of g
      rw [ej, nI_toInt hj] at c
      rw [ej, nI_leI (by omega) hj]
      omega
