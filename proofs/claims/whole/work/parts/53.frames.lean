/-! a guess: bits of b ticks, d of a letter, parity p, s stops, idle; a frame that starts at i -/
def nb (d p s : Nat) : Nat := 1 + d + (if p = 0 then 0 else 1) + s
def tkb (b i k : Nat) : Nat := i + b * k + b / 2
/-- how many of the bits 1 .. k - 1, up to e, are ONES -/
def cn (L : Nat → Int32) (b e : Nat) (idle : Int32) (i : Nat) : Nat → Nat
  | 0 => 0
  | k + 1 => cn L b e idle i k + (if 1 ≤ k ∧ k ≤ e ∧ L (tkb b i k) = idle then 1 else 0)
/-- the number that they tell -/
def lt (L : Nat → Int32) (b d : Nat) (idle : Int32) (i : Nat) : Nat → Nat
  | 0 => 0
  | k + 1 => lt L b d idle i k + (if 1 ≤ k ∧ k ≤ d ∧ L (tkb b i k) = idle then 2 ^ (k - 1) else 0)
def bc (L : Nat → Int32) (t b d p : Nat) (idle : Int32) (i k : Nat) : Nat :=
  if tkb b i k < t then
    (if k = 0 then (if L (tkb b i k) = idle then 1 else 0)
     else if k ≤ d then 0
     else if k = d + 1 ∧ p ≠ 0 then (if (cn L b d idle i k + (if L (tkb b i k) = idle then 1 else 0)) % 2 = p - 1 then 0 else 2)
     else if L (tkb b i k) = idle then 0 else 3)
  else 4
def fc (L : Nat → Int32) (t b d p : Nat) (idle : Int32) (i : Nat) : Nat → Nat
  | 0 => 0
  | k + 1 => if fc L t b d p idle i k = 0 then bc L t b d p idle i k else fc L t b d p idle i k
def mgf (L : Nat → Int32) (t b i m0 : Nat) : Nat → Nat
  | 0 => m0
  | k + 1 => if dep L t (tkb b i k) < mgf L t b i m0 k then dep L t (tkb b i k) else mgf L t b i m0 k
/-- is it a guess -/
def GOK (b d p s : Nat) (idle : Int32) : Prop := 1 ≤ b ∧ b ≤ 16 ∧ 5 ≤ d ∧ d ≤ 8 ∧ p ≤ 2 ∧ 1 ≤ s ∧ s ≤ 2 ∧ (idle = 0 ∨ idle = 1)
theorem nb_le {b d p s : Nat} {idle : Int32} (h : GOK b d p s idle) : 7 ≤ nb d p s ∧ nb d p s ≤ 12 := by
  obtain ⟨-, -, h1, h2, h3, h4, h5, -⟩ := h
  unfold nb
  split <;> omega
theorem tkb_le {b i k : Nat} (hb : b ≤ 16) (hk : k ≤ 12) : tkb b i k ≤ i + 200 := by
  unfold tkb
  have : b * k ≤ 16 * 12 := Nat.mul_le_mul hb hk
  omega
theorem fc_stay {L : Nat → Int32} {t b d p : Nat} {idle : Int32} {i k : Nat} : ∀ n, k ≤ n → fc L t b d p idle i k ≠ 0 → fc L t b d p idle i n = fc L t b d p idle i k := by
  intro n
  induction n with
  | zero => intro h1 h2; rw [show k = 0 by omega]
  | succ n ih =>
    intro h1 h2
    by_cases c : k = n + 1
    · rw [c]
    · have := ih (by omega) h2
      rw [fc, if_neg (by rw [this]; exact h2)]
      exact this
theorem fc_zero {L : Nat → Int32} {t b d p : Nat} {idle : Int32} {i k n : Nat} (h : k ≤ n) (h0 : fc L t b d p idle i n = 0) : fc L t b d p idle i k = 0 := by
  by_cases c : fc L t b d p idle i k = 0
  · exact c
  · rw [fc_stay n h c] at h0; exact absurd h0 c
theorem fc_in {L : Nat → Int32} {t b d p : Nat} {idle : Int32} {i k n : Nat} (h : k < n) (h0 : fc L t b d p idle i n = 0) : tkb b i k < t := by
  have h1 := fc_zero (k := k + 1) (by omega) h0
  have h2 := fc_zero (k := k) (by omega) h0
  rw [fc, if_pos h2] at h1
  unfold bc at h1
  by_cases c : tkb b i k < t
  · exact c
  · rw [if_neg c] at h1; omega
theorem bc_le {L : Nat → Int32} {t b d p : Nat} {idle : Int32} {i k : Nat} : bc L t b d p idle i k ≤ 4 := by
  unfold bc
  repeat' split
  all_goals omega
theorem fc_le {L : Nat → Int32} {t b d p : Nat} {idle : Int32} {i : Nat} : ∀ k, fc L t b d p idle i k ≤ 4 := by
  intro k
  induction k with
  | zero => rw [fc]; omega
  | succ k ih =>
    rw [fc]
    split
    · exact bc_le
    · exact ih
theorem cn_le {L : Nat → Int32} {b e : Nat} {idle : Int32} {i : Nat} : ∀ k, cn L b e idle i k ≤ k := by
  intro k
  induction k with
  | zero => rw [cn]; omega
  | succ k ih =>
    rw [cn]
    split <;> omega
theorem lt_lt {L : Nat → Int32} {b d : Nat} {idle : Int32} {i : Nat} : ∀ k, lt L b d idle i k < 2 ^ (k - 1) ∧ lt L b d idle i k < 2 ^ d := by
  intro k
  induction k with
  | zero => rw [lt]; exact ⟨by decide, Nat.two_pow_pos d⟩
  | succ k ih =>
    rw [lt]
    by_cases c : 1 ≤ k ∧ k ≤ d ∧ L (tkb b i k) = idle
    · rw [if_pos c]
      have e : 2 ^ (k + 1 - 1) = 2 * 2 ^ (k - 1) := by
        rw [show k + 1 - 1 = (k - 1) + 1 by omega, Nat.pow_succ]; omega
      have h2 : 2 ^ (k + 1 - 1) ≤ 2 ^ d := Nat.pow_le_pow_right (by omega) (by omega)
      omega
    · rw [if_neg c]
      have h2 : 2 ^ (k - 1) ≤ 2 ^ (k + 1 - 1) := Nat.pow_le_pow_right (by omega) (by omega)
      omega
theorem nI_or (a b : Nat) : nI a ||| nI b = nI (a ||| b) := by
  apply Int32.toBitVec.inj
  rw [Int32.toBitVec_or]
  unfold nI
  rw [Int32.toBitVec_ofNat', Int32.toBitVec_ofNat', Int32.toBitVec_ofNat', BitVec.ofNat_or]
theorem shl1 {k : Nat} (h : k < 8) : shl (1 : Int32) (nI k) = nI (2 ^ k) := by
  rcases (show k = 0 ∨ k = 1 ∨ k = 2 ∨ k = 3 ∨ k = 4 ∨ k = 5 ∨ k = 6 ∨ k = 7 by omega) with rfl | rfl | rfl | rfl | rfl | rfl | rfl | rfl <;> decide
theorem shl0 {k : Nat} (h : k < 8) : shl (0 : Int32) (nI k) = nI 0 := by
  rcases (show k = 0 ∨ k = 1 ∨ k = 2 ∨ k = 3 ∨ k = 4 ∨ k = 5 ∨ k = 6 ∨ k = 7 by omega) with rfl | rfl | rfl | rfl | rfl | rfl | rfl | rfl <;> decide
theorem or_pow {v k : Nat} (h : v < 2 ^ k) : v ||| 2 ^ k = v + 2 ^ k := by
  rw [Nat.or_comm]
  have := Nat.two_pow_add_eq_or_of_lt h 1
  rw [Nat.mul_one] at this
  rw [← this]
  omega
theorem lt_step {L : Nat → Int32} {b d : Nat} {idle : Int32} {i k : Nat} (h1 : 1 ≤ k) (h2 : k ≤ d) (hd : d ≤ 8) (c : L (tkb b i k) = idle) : nI (lt L b d idle i k) ||| shl (1 : Int32) (nI (k - 1)) = nI (lt L b d idle i (k + 1)) := by
  rw [shl1 (by omega), nI_or, or_pow (lt_lt k).1, lt, if_pos ⟨h1, h2, c⟩]
/-! the class's frame -/
theorem bitsOfFrame_ok {fu d p s : Nat} {Q : Int32 → Prop} (hd : d ≤ 8) (hp : p ≤ 2) (hs : s ≤ 2) (h : Q (nI (nb d p s))) : wp_X1_bitsOfFrame fu (nI d) (nI p) (nI s) Q := by
  unfold wp_X1_bitsOfFrame
  unfold nb at h
  refine wif (fun c => ?_) (fun c => ?_)
  · have c' : p = 0 := by
      have : nI p = nI 0 := c
      rwa [nI_eq (by omega) (by omega)] at this
    rw [if_pos c'] at h
    simp (disch := omega) only [lit_nI, nI_add]
    exact h
  · have c' : p ≠ 0 := fun h0 => c (by rw [h0]; rfl)
    rw [if_neg c'] at h
    simp (disch := omega) only [lit_nI, nI_add]
    exact h
theorem tickOfBit_ok {fu b i k : Nat} {Q : Int32 → Prop} (hb : b ≤ 16) (h : Q (nI (tkb b i k))) : wp_X1_tickOfBit fu (nI b) (nI i) (nI k) Q := by
  unfold wp_X1_tickOfBit
  unfold tkb at h
  simp (disch := omega) only [lit_nI, nI_add, nI_mul, nI_div]
  exact h
theorem failureOfBit_ok {fu t b d p i k : Nat} {L : Nat → Int32} {idle o1 : Int32} {Q : Int32 → Prop} (hd : d ≤ 8) (hp : p ≤ 2) (hk : k ≤ 12) (hin : tkb b i k < t) (ho : o1 = if L (tkb b i k) = idle then 1 else 0) (h : Q (nI (bc L t b d p idle i k))) : wp_X4_failureOfBit fu (nI d) (nI p) (nI k) o1 (nI (cn L b d idle i k)) Q := by
  have hc := cn_le (L := L) (b := b) (e := d) (idle := idle) (i := i) k
  unfold wp_X4_failureOfBit
  unfold bc at h
  rw [if_pos hin] at h
  refine wif (fun c => ?_) (fun c => ?_)
  · have c' : k = 0 := by
      have : nI k = nI 0 := c
      rwa [nI_eq (by omega) (by omega)] at this
    rw [if_pos c'] at h
    by_cases e : L (tkb b i k) = idle
    · rw [if_pos e] at ho h
      exact wifp ho h
    · rw [if_neg e] at ho h
      exact wifn (by rw [ho]; decide) h
  · have c' : k ≠ 0 := fun h0 => c (by rw [h0]; rfl)
    rw [if_neg c'] at h
    refine wif (fun c2 => ?_) (fun c2 => ?_)
    · rw [nI_ltI (by omega) (by omega)] at c2
      rw [if_neg (by omega)] at h
      have stop : (¬ (k = d + 1 ∧ p ≠ 0)) → wX4_failureOfBit_62 fu (nI d) (nI p) (nI k) o1 (nI (cn L b d idle i k)) Q := by
        intro hn
        rw [if_neg hn] at h
        unfold wX4_failureOfBit_62
        by_cases e : L (tkb b i k) = idle
        · rw [if_pos e] at ho h
          exact wifp ho h
        · rw [if_neg e] at ho h
          exact wifn (by rw [ho]; decide) h
      refine wif (fun c3 => ?_) (fun c3 => stop (fun hh => c3 ?_))
      · have c3' : k = d + 1 := by
          have : nI k = nI d + nI 1 := c3
          rwa [nI_add, nI_eq (by omega) (by omega)] at this
        refine wif (fun c4 => stop (fun hh => hh.2 ?_)) (fun c4 => ?_)
        · have : nI p = nI 0 := c4
          rwa [nI_eq (by omega) (by omega)] at this
        · have c4' : p ≠ 0 := fun h0 => c4 (by rw [h0]; rfl)
          rw [if_pos ⟨c3', c4'⟩] at h
          have key : o1 = nI (if L (tkb b i k) = idle then 1 else 0) := by
            rw [ho]
            split <;> rfl
          rw [key]
          have hle : (if L (tkb b i k) = idle then 1 else 0) ≤ 1 := by split <;> omega
          rw [nI_add, show (2 : Int32) = nI 2 from rfl, irm_nI (by omega) (by omega) (by omega), show (1 : Int32) = nI 1 from rfl, nI_sub (by omega)]
          refine wif (fun c5 => ?_) (fun c5 => ?_) <;> rw [nI_eq (by omega) (by omega)] at c5
          · rwa [if_pos c5] at h
          · rwa [if_neg c5] at h
      · rw [hh.1, ← nI_add]; rfl
    · rw [nI_ltI (by omega) (by omega)] at c2
      rw [if_pos (by omega)] at h
      exact h
theorem imn_nI {a b : Nat} (ha : a < 2 ^ 31) (hb : b < 2 ^ 31) : imn (nI a) (nI b) = nI (if b < a then b else a) := by
  unfold imn
  by_cases c : b < a
  · rw [if_pos c, if_pos (nI_lt c ha)]
  · rw [if_neg c, if_neg (by rw [nI_ltI hb ha]; exact c)]
theorem mgf_le {L : Nat → Int32} {t b i m0 : Nat} : ∀ k, mgf L t b i m0 k ≤ m0 := by
  intro k
  induction k with
  | zero => exact Nat.le_refl _
  | succ k ih =>
    rw [mgf]
    split <;> omega
theorem levelAt_any {fu t j : Nat} {lev L : Nat → Int32} {Q : Int32 → Prop} (hw : CW lev (nI t) L t) (hj : j < 2 ^ 31) (h1 : j < t → Q (L j)) (h2 : t ≤ j → Q (-9)) : wp_X8_levelAt fu (nI t) lev (nI j) Q := by
  by_cases c : j < t
  · exact levelAt_ok hw c (h1 c)
  · have ht := hw.2.1
    unfold wp_X8_levelAt
    exact wifn (nI_pos hj) (wifp (nI_le (by omega) hj) (h2 (by omega)))
theorem readFrame_lp {fu t b d p s i m0 : Nat} {lev L fi la : Nat → Int32} {idle : Int32} {Q : Int32 → Int32 → Int32 → Prop} (hw : CW lev (nI t) L t) (hr : RunsOK L t fi la) (hg : GOK b d p s idle) (hi : i < 360) (hm : m0 ≤ 360)
    (h0 : fc L t b d p idle i (nb d p s) = 0 → Q (nI (lt L b d idle i (nb d p s))) 0 (nI (mgf L t b i m0 (nb d p s)))) (h1 : fc L t b d p idle i (nb d p s) ≠ 0 → ∀ m, Q (-9) (nI (fc L t b d p idle i (nb d p s))) m) :
    ∀ (n fuel k : Nat) (f0 : Int32), k + n = nb d p s → n < fuel → (k = 0 → f0 = 0) → (0 < k → f0 = 0) → fc L t b d p idle i k = 0 → wX4_readFrame_14 fu (nI t) lev (nI t) fi la (nI b) (nI d) idle (nI p) (nI s) (nI i) Q fuel (nI (lt L b d idle i k)) (nI (cn L b d idle i k)) (nI (nb d p s)) (nI k) f0 (nI (mgf L t b i m0 k)) := by
  obtain ⟨hb1, hb2, hd1, hd2, hp, hs1, hs2, hid⟩ := id hg
  have hnb := nb_le hg
  have ht := hw.2.1
  intro n
  induction n with
  | zero =>
    intro fuel k f0 hk hf hf0 hf1 hz
    obtain ⟨f, rfl⟩ : ∃ f, fuel = f + 1 := ⟨fuel - 1, by omega⟩
    have e : k = nb d p s := by omega
    subst e
    unfold wX4_readFrame_14
    refine wifp (nI_le (by omega) (by omega)) ?_
    rw [hf1 (by omega)]
    exact h0 hz
  | succ n ih =>
    intro fuel k f0 hk hf hf0 hf1 hz
    obtain ⟨f, rfl⟩ : ∃ f, fuel = f + 1 := ⟨fuel - 1, by omega⟩
    have htk := tkb_le (b := b) (i := i) (k := k) hb2 (by omega)
    have hcn := cn_le (L := L) (b := b) (e := d) (idle := idle) (i := i) k
    have hmg := mgf_le (L := L) (t := t) (b := b) (i := i) (m0 := m0) k
    unfold wX4_readFrame_14
    refine wifn (by rw [nI_leI (by omega) (by omega)]; omega) (tickOfBit_ok hb2 ?_)
    have fail : bc L t b d p idle i k ≠ 0 → ∀ m, Q (-9) (nI (bc L t b d p idle i k)) m := by
      intro hne m
      have e1 : fc L t b d p idle i (k + 1) = bc L t b d p idle i k := by rw [fc, if_pos hz]
      have e2 := fc_stay (nb d p s) (show k + 1 ≤ nb d p s by omega) (by rw [e1]; exact hne)
      rw [e1] at e2
      have := h1 (by rw [e2]; exact hne) m
      rwa [e2] at this
    -- what comes behind the bit
    have go : ∀ o1 : Int32, tkb b i k < t → (o1 = if L (tkb b i k) = idle then 1 else 0) → wX4_readFrame_51 fu (nI t) lev (nI t) fi la (nI b) (nI d) idle (nI p) (nI s) (nI i) Q (wX4_readFrame_14 fu (nI t) lev (nI t) fi la (nI b) (nI d) idle (nI p) (nI s) (nI i) Q f) (nI (lt L b d idle i k)) (nI (cn L b d idle i k)) (nI (nb d p s)) (nI k) (nI (tkb b i k)) o1 f0 (nI (mgf L t b i m0 k)) := by
      intro o1 hin ho
      unfold wX4_readFrame_51
      refine has_ok ht (by omega) (fun _ => wifn (by decide) ?_) (fun c => by omega)
      refine failureOfBit_ok hd2 hp (by omega) hin ho ?_
      unfold wX4_readFrame_80
      have hb4 := bc_le (L := L) (t := t) (b := b) (d := d) (p := p) (idle := idle) (i := i) (k := k)
      refine wif (fun c => ?_) (fun c => fail (fun h => c (by rw [h]; rfl)) _)
      have c' : bc L t b d p idle i k = 0 := by
        have : nI (bc L t b d p idle i k) = nI 0 := c
        rwa [nI_eq (by omega) (by omega)] at this
      have hz' : fc L t b d p idle i (k + 1) = 0 := by rw [fc, if_pos hz, c']
      have hdp := dep_lt (L := L) hin
      have tail : ∀ l4 c4 : Nat, l4 = lt L b d idle i (k + 1) → c4 = cn L b d idle i (k + 1) → wX4_readFrame_125 fu (nI t) lev (nI t) fi la (nI b) (nI d) idle (nI p) (nI s) (nI i) Q (wX4_readFrame_14 fu (nI t) lev (nI t) fi la (nI b) (nI d) idle (nI p) (nI s) (nI i) Q f) (nI l4) (nI c4) (nI (nb d p s)) (nI k) (nI (tkb b i k)) (nI (bc L t b d p idle i k)) (nI (mgf L t b i m0 k)) := by
        intro l4 c4 e1 e2
        unfold wX4_readFrame_125
        refine inset_ok ht hr hin ?_
        rw [show (1 : Int32) = nI 1 from rfl, nI_add, imn_nI (by omega) (by omega), c', e1, e2]
        have e3 : (if dep L t (tkb b i k) < mgf L t b i m0 k then dep L t (tkb b i k) else mgf L t b i m0 k) = mgf L t b i m0 (k + 1) := by rw [mgf]
        rw [e3]
        exact ih f (k + 1) _ (by omega) (by omega) (fun h => by omega) (fun h => rfl) hz'
      refine wif (fun c2 => ?_) (fun c2 => ?_)
      · have c2' : k < 1 := by
          have : nI k < nI 1 := c2
          rwa [nI_ltI (by omega) (by omega)] at this
        refine tail _ _ ?_ ?_
        · rw [lt, if_neg (by omega)]; rfl
        · rw [cn, if_neg (by omega)]; rfl
      · have c2' : ¬ k < 1 := by
          intro h2
          exact c2 (show nI k < nI 1 from nI_lt h2 (by decide))
        refine wif (fun c3 => ?_) (fun c3 => ?_) <;> rw [nI_ltI (by omega) (by omega)] at c3
        · refine tail _ _ ?_ ?_
          · rw [lt, if_neg (by omega)]; rfl
          · rw [cn, if_neg (by omega)]; rfl
        · intro y hy z hz2
          rw [show (1 : Int32) = nI 1 from rfl, nI_sub (by omega)] at hy
          by_cases e : L (tkb b i k) = idle
          · rw [if_pos e] at ho
            rw [ho, lt_step (by omega) (by omega) hd2 e] at hy
            rw [ho, show (1 : Int32) = nI 1 from rfl, nI_add] at hz2
            rw [hy, hz2]
            refine tail _ _ rfl ?_
            rw [cn, if_pos ⟨by omega, by omega, e⟩]
          · rw [if_neg e] at ho
            rw [ho, shl0 (by omega), nI_or, Nat.or_zero] at hy
            rw [ho, show (0 : Int32) = nI 0 from rfl, nI_add] at hz2
            rw [hy, hz2]
            refine tail _ _ ?_ ?_
            · rw [lt, if_neg (fun h => e h.2.2)]; rfl
            · rw [cn, if_neg (fun h => e h.2.2)]
    refine levelAt_any hw (by omega) (fun hin => ?_) (fun hout => ?_)
    · exact wif (fun c => go 1 hin (by rw [if_pos c])) (fun c => go 0 hin (by rw [if_neg c]))
    · refine wifn (by rcases hid with e | e <;> rw [e] <;> decide) ?_
      unfold wX4_readFrame_51
      refine has_ok ht (by omega) (fun c => by omega) (fun _ => wifp rfl ?_)
      unfold wX4_readFrame_80
      refine wifn (by decide) ?_
      have e4 : bc L t b d p idle i k = 4 := by unfold bc; rw [if_neg (by omega)]
      have := fail (by rw [e4]; decide) (nI (mgf L t b i m0 k))
      rwa [e4] at this
theorem readFrame_ok {fu t b d p s i m0 : Nat} {lev L fi la : Nat → Int32} {idle : Int32} {Q : Int32 → Int32 → Int32 → Prop} (hfu : 400 ≤ fu) (hw : CW lev (nI t) L t) (hr : RunsOK L t fi la) (hg : GOK b d p s idle) (hi : i < 360) (hm : m0 ≤ 360)
    (h0 : fc L t b d p idle i (nb d p s) = 0 → Q (nI (lt L b d idle i (nb d p s))) 0 (nI (mgf L t b i m0 (nb d p s)))) (h1 : fc L t b d p idle i (nb d p s) ≠ 0 → ∀ m, Q (-9) (nI (fc L t b d p idle i (nb d p s))) m) : wp_X4_readFrame fu (nI t) lev (nI t) fi la (nI b) (nI d) idle (nI p) (nI s) (nI i) 0 (nI m0) Q := by
  have hnb := nb_le hg
  unfold wp_X4_readFrame
  refine bitsOfFrame_ok hg.2.2.2.1 hg.2.2.2.2.1 hg.2.2.2.2.2.2.1 ?_
  exact readFrame_lp hw hr hg hi hm h0 h1 (nb d p s) fu 0 0 (by omega) (by omega) (fun _ => rfl) (fun _ => rfl) rfl
