/-! shares -/
def sm (g : Nat → Nat) : Nat → Nat
  | 0 => 0
  | s + 1 => sm g s + g s
theorem sm_add (a b : Nat → Nat) : ∀ n, sm (fun s => a s + b s) n = sm a n + sm b n := by
  intro n
  induction n with
  | zero => rfl
  | succ n ih => rw [sm, sm, sm, ih]; omega
theorem sm_eq {a b : Nat → Nat} : ∀ n, (∀ s, s < n → a s = b s) → sm a n = sm b n := by
  intro n
  induction n with
  | zero => intro _; rfl
  | succ n ih => intro h; rw [sm, sm, ih (fun s hs => h s (by omega)), h n (by omega)]
theorem sm_zero {a : Nat → Nat} : ∀ n, (∀ s, s < n → a s = 0) → sm a n = 0 := by
  intro n
  induction n with
  | zero => intro _; rfl
  | succ n ih => intro h; rw [sm, ih (fun s hs => h s (by omega)), h n (by omega)]
theorem sm_le {a : Nat → Nat} {c : Nat} : ∀ n, (∀ s, s < n → a s ≤ c) → sm a n ≤ c * n := by
  intro n
  induction n with
  | zero => intro _; exact Nat.zero_le _
  | succ n ih =>
    intro h
    have h1 := ih (fun s hs => h s (by omega))
    have h2 := h n (by omega)
    rw [sm, Nat.mul_succ]
    omega
def sob (m r : Nat) : Nat → Bool
  | 0 => true
  | q + 1 => sob m r q && (decide (m / 2 ^ q % 2 = 0) || decide (r / 2 ^ q % 2 = 0))
theorem sob_low {m r r' : Nat} : ∀ n, (∀ q, q < n → r / 2 ^ q % 2 = r' / 2 ^ q % 2) → sob m r n = sob m r' n := by
  intro n
  induction n with
  | zero => intro _; rfl
  | succ n ih => intro h; rw [sob, sob, ih (fun q hq => h q (by omega)), h n (by omega)]
theorem pow_bit {a n q : Nat} (h : q < n) : (a + 2 ^ n) / 2 ^ q % 2 = a / 2 ^ q % 2 := by
  have e : 2 ^ n = 2 ^ q * (2 * 2 ^ (n - q - 1)) := by
    rw [← Nat.pow_succ', ← Nat.pow_add]
    congr 1
    omega
  rw [e, Nat.add_mul_div_left _ _ (Nat.two_pow_pos q)]
  omega
theorem so_sob (ki kv : Nat → Nat) (us : List Nat) (m : Nat) : ∀ n, so ki kv us m n = sob m (rfm ki kv us n) n := by
  intro n
  induction n with
  | zero => rfl
  | succ n ih =>
    have hlt := rfm_lt ki kv us n
    have hp : 0 < 2 ^ n := Nat.two_pow_pos n
    rw [so, sob, ih]
    by_cases c : us[ki n]? = some (kv n)
    · have e : rfm ki kv us (n + 1) = rfm ki kv us n := by rw [rfm, if_pos c]; rfl
      rw [e, Nat.div_eq_of_lt hlt, decide_eq_true c, decide_eq_true (show 0 % 2 = 0 from rfl)]
    · have e : rfm ki kv us (n + 1) = rfm ki kv us n + 2 ^ n := by rw [rfm, if_neg c]
      have e2 : (rfm ki kv us n + 2 ^ n) / 2 ^ n % 2 = 1 := by
        rw [Nat.add_div_right _ hp, Nat.div_eq_of_lt hlt]
      rw [e, e2, decide_eq_false c, sob_low (r := rfm ki kv us n + 2 ^ n) (r' := rfm ki kv us n) n (fun q hq => pow_bit hq)]
      rfl
def ib (b : Bool) : Nat := if b = true then 1 else 0
/-- how much a set counts for place p of n -/
def cst (n p S : Nat) : Nat := if S / 2 ^ p % 2 = 0 then fct (onn S 8) * fct (n - 1 - onn S 8) else 0
def cpl (p r : Nat) : Nat := if r / 2 ^ p % 2 = 1 then 60 / onn r 8 else 0
theorem tb_mono : ∀ n, n < 6 → ∀ p, p < n → ∀ r, r < 2 ^ n → ∀ S, S < 2 ^ n → ib (sob (S ||| 2 ^ p) r n) ≤ ib (sob S r n) := by decide +kernel
theorem tb_sum : ∀ n, n < 6 → ∀ p, p < n → ∀ r, r < 2 ^ n → sm (fun S => cst n p S * (ib (sob S r n) - ib (sob (S ||| 2 ^ p) r n))) (2 ^ n) * 60 = cpl p r * fct n := by decide +kernel
theorem tb_ones0 : ∀ n, n < 6 → ∀ p, p < n → ∀ S, S < 2 ^ n → ¬ S / 2 ^ p % 2 = 0 ∨ (onn S 8 + 1 ≤ n ∧ S ||| 2 ^ p < 2 ^ n ∧ fct (onn S 8) * fct (n - 1 - onn S 8) ≤ 24) := by decide +kernel
theorem tb_ones (n : Nat) (hn : n < 6) (p : Nat) (hp : p < n) (S : Nat) (hS : S < 2 ^ n) (h : S / 2 ^ p % 2 = 0) : onn S 8 + 1 ≤ n ∧ S ||| 2 ^ p < 2 ^ n ∧ fct (onn S 8) * fct (n - 1 - onn S 8) ≤ 24 := (tb_ones0 n hn p hp S hS).resolve_left (not_not_intro h)
theorem tb_cpl : ∀ p, p < 5 → ∀ r, r < 32 → cpl p r ≤ 60 ∧ (r / 2 ^ p % 2 = 1 → 1 ≤ onn r 8) ∧ onn r 8 ≤ 5 := by decide +kernel
def sxt (L : Nat → Int32) (t n : Nat) (ki kv : Nat → Nat) (p : Nat) : Nat → Nat
  | 0 => 0
  | k + 1 => sxt L t n ki kv p k + (if fitK L t k then cpl p (rfm ki kv (lets L t k) n) else 0)
def wrt (L : Nat → Int32) (t n : Nat) (ki kv : Nat → Nat) (N S : Nat) : Nat := cnb (pM L t n ki kv S) N
def few (L : Nat → Int32) (t n : Nat) (ki kv : Nat → Nat) (p N s : Nat) : Nat := sm (fun S => cst n p S * (wrt L t n ki kv N S - wrt L t n ki kv N (S ||| 2 ^ p))) s
theorem rfm_lt2 (ki kv : Nat → Nat) (us : List Nat) {n : Nat} (hn : n < 6) : rfm ki kv us n < 32 := by
  have h1 := rfm_lt ki kv us n
  have h2 : 2 ^ n ≤ 2 ^ 5 := Nat.pow_le_pow_right (by omega) (by omega)
  omega
theorem pM_ib {L : Nat → Int32} {t n : Nat} {ki kv : Nat → Nat} {S k : Nat} : (if pM L t n ki kv S k = true then 1 else 0) = if fitK L t k then ib (sob S (rfm ki kv (lets L t k) n) n) else 0 := by
  unfold pM
  rw [so_sob]
  by_cases c : fitK L t k
  · rw [decide_eq_true c, if_pos c, Bool.true_and]; rfl
  · rw [decide_eq_false c, if_neg c, Bool.false_and]; rfl
theorem wrt_mono {L : Nat → Int32} {t n : Nat} {ki kv : Nat → Nat} {p S : Nat} (hn : n < 6) (hp : p < n) (hS : S < 2 ^ n) : ∀ N, wrt L t n ki kv N (S ||| 2 ^ p) ≤ wrt L t n ki kv N S := by
  intro N
  induction N with
  | zero => exact Nat.le_refl _
  | succ N ih =>
    unfold wrt at ih ⊢
    rw [cnb, cnb, pM_ib, pM_ib]
    by_cases c : fitK L t N
    · rw [if_pos c, if_pos c]
      have := tb_mono n hn p hp _ (rfm_lt ki kv (lets L t N) n) S hS
      omega
    · rw [if_neg c, if_neg c]; omega
theorem few_sxt {L : Nat → Int32} {t n : Nat} {ki kv : Nat → Nat} {p : Nat} (hn : n < 6) (hp : p < n) : ∀ N, few L t n ki kv p N (2 ^ n) * 60 = sxt L t n ki kv p N * fct n := by
  intro N
  induction N with
  | zero =>
    unfold few wrt
    rw [sm_zero (2 ^ n) (fun s hs => by rw [cnb, cnb]; rfl)]
    rw [sxt, Nat.zero_mul, Nat.zero_mul]
  | succ N ih =>
    have e : few L t n ki kv p (N + 1) (2 ^ n) = few L t n ki kv p N (2 ^ n) + (if fitK L t N then sm (fun S => cst n p S * (ib (sob S (rfm ki kv (lets L t N) n) n) - ib (sob (S ||| 2 ^ p) (rfm ki kv (lets L t N) n) n))) (2 ^ n) else 0) := by
      unfold few
      by_cases c : fitK L t N
      · rw [if_pos c, ← sm_add]
        refine sm_eq _ (fun S hS => ?_)
        have h1 := wrt_mono (L := L) (t := t) (ki := ki) (kv := kv) hn hp hS N
        have h2 := tb_mono n hn p hp _ (rfm_lt ki kv (lets L t N) n) S hS
        have e1 : ∀ S, wrt L t n ki kv (N + 1) S = wrt L t n ki kv N S + ib (sob S (rfm ki kv (lets L t N) n) n) := by
          intro S
          unfold wrt
          rw [cnb, pM_ib, if_pos c]
        rw [e1, e1, ← Nat.mul_add]
        congr 1
        omega
      · rw [if_neg c, Nat.add_zero]
        refine sm_eq _ (fun S hS => ?_)
        have e1 : ∀ S, wrt L t n ki kv (N + 1) S = wrt L t n ki kv N S := by
          intro S
          unfold wrt
          rw [cnb, pM_ib, if_neg c, Nat.add_zero]
        rw [e1, e1]
    rw [e, sxt, Nat.add_mul, Nat.add_mul, ih]
    by_cases c : fitK L t N
    · rw [if_pos c, if_pos c, tb_sum n hn p hp _ (rfm_lt ki kv (lets L t N) n)]
    · rw [if_neg c, if_neg c, Nat.zero_mul, Nat.zero_mul]
theorem sxt_le {L : Nat → Int32} {t n : Nat} {ki kv : Nat → Nat} {p : Nat} (hn : n < 6) (hp : p < n) : ∀ N, sxt L t n ki kv p N ≤ 60 * N := by
  intro N
  induction N with
  | zero => exact Nat.zero_le _
  | succ N ih =>
    have := (tb_cpl p (by omega) _ (rfm_lt2 ki kv (lets L t N) hn)).1
    rw [sxt]
    split <;> omega
theorem few_le {L : Nat → Int32} {t n : Nat} {ki kv : Nat → Nat} {p : Nat} (hn : n < 6) (hp : p < n) {s : Nat} (hs : s ≤ 2 ^ n) : few L t n ki kv p 768 s < 2 ^ 20 := by
  have h2 : 2 ^ n ≤ 2 ^ 5 := Nat.pow_le_pow_right (by omega) (by omega)
  have h1 : few L t n ki kv p 768 s ≤ (24 * 768) * s := by
    refine sm_le s (fun S hS => ?_)
    have hw : wrt L t n ki kv 768 S ≤ 768 := cnb_le _ _
    refine Nat.mul_le_mul ?_ (by omega)
    unfold cst
    split
    · rename_i c
      exact (tb_ones n hn p hp S (by omega) c).2.2
    · omega
  omega
theorem sixtieths_lp {fu t n p : Nat} {ki kv : Nat → Nat} {lev L fi la nu va : Nat → Int32} {rr : Int32} {Q : Int32 → Int32 → Int32 → Int32 → Int32 → Int32 → Int32 → Int32 → Int32 → Int32 → (Nat → Int32) → Int32 → Int32 → (Nat → Int32) → (Nat → Int32) → (Nat → Int32) → Prop} (hfu : 1000 ≤ fu) (hw : CW lev (nI t) L t) (hbt : Bt L t) (hr : RunsOK L t fi la) (hk : KN n ki kv (nI n) nu va) (hp : p < n)
    (h : ∀ b1 b2 b3 b4 b5 b6 b7 b8 b9 le st, Q (nI (sxt L t n ki kv p 768)) b1 b2 b3 b4 b5 b6 b7 b8 b9 le rr (nI t) fi la st) :
    ∀ (j fuel k : Nat) (b1 b2 b3 b4 b5 b6 b7 b8 b9 : Int32) (le st : Nat → Int32), k + j = 768 → j < fuel → wX3_sixtiethsRuledOut_11 fu (nI t) lev (nI n) nu va (nI p) Q fuel (nI (sxt L t n ki kv p k)) (nI k) b1 b2 b3 b4 b5 b6 b7 b8 b9 le rr (nI t) fi la st := by
  have ht := hw.2.1
  have hn := hk.2.1
  intro j
  induction j with
  | zero =>
    intro fuel k b1 b2 b3 b4 b5 b6 b7 b8 b9 le st hj hf
    obtain ⟨f, rfl⟩ : ∃ f, fuel = f + 1 := ⟨fuel - 1, by omega⟩
    have e : k = 768 := by omega
    subst e
    unfold wX3_sixtiethsRuledOut_11
    exact wifp (by decide) (h _ _ _ _ _ _ _ _ _ _ _)
  | succ j ih =>
    intro fuel k b1 b2 b3 b4 b5 b6 b7 b8 b9 le st hj hf
    obtain ⟨f, rfl⟩ : ∃ f, fuel = f + 1 := ⟨fuel - 1, by omega⟩
    have hk7 : k < 768 := by omega
    unfold wX3_sixtiethsRuledOut_11
    refine wifn (by simp (disch := omega) only [lit_nI, nI_leI]; omega) (become_ok hk7 ?_)
    refine readK_C (by omega) hw hbt hr hk7 (fun hfit fs' le' st' hle hfi => ?_) (fun hno fs' fl' fr' mm' le' st' hfi => ?_)
    · refine fitsC_use hfi (wifn (by decide) ?_)
      rw [← lets_len]
      refine refuters_ok (by omega) hk (lets_LH hle) (lets_Sm ht hk7) ?_
      have h32 := rfm_lt2 ki kv (lets L t k) (show n < 6 by omega)
      have tb := tb_cpl p (by omega) _ h32
      have key : ∀ x : Int32, x = nI (sxt L t n ki kv p (k + 1)) → ∀ b1 b2 b3 b4 b5 b6 b7 b8 b9 le st, wX3_sixtiethsRuledOut_87 fu (nI t) lev (nI n) nu va (nI p) Q (wX3_sixtiethsRuledOut_11 fu (nI t) lev (nI n) nu va (nI p) Q f) x (nI k) b1 b2 b3 b4 b5 b6 b7 b8 b9 le rr (nI t) fi la st := by
        intro x ex b1 b2 b3 b4 b5 b6 b7 b8 b9 le st
        subst ex
        unfold wX3_sixtiethsRuledOut_87
        rw [show (1 : Int32) = nI 1 from rfl, nI_add]
        exact ih f (k + 1) _ _ _ _ _ _ _ _ _ _ _ (by omega) (by omega)
      have es : sxt L t n ki kv p (k + 1) = sxt L t n ki kv p k + cpl p (rfm ki kv (lets L t k) n) := by rw [sxt, if_pos hfit]
      unfold wX3_sixtiethsRuledOut_52
      refine bitCount_ok h32 ?_
      rw [shr_and (by omega) (by omega)]
      have c0 : ¬ rfm ki kv (lets L t k) n / 2 ^ p % 2 = 1 → sxt L t n ki kv p (k + 1) = sxt L t n ki kv p k := by
        intro c; rw [es, cpl, if_neg c]; rfl
      refine wif (fun g => ?_) (fun g => ?_) <;> rw [show (0 : Int32) = nI 0 from rfl, nI_leI (by omega) (by omega)] at g
      · exact key _ (by rw [c0 (fun c => by have := tb.2.1 c; omega)]) _ _ _ _ _ _ _ _ _ _ _
      · refine wif (fun c => ?_) (fun c => ?_) <;> rw [show (1 : Int32) = nI 1 from rfl, nI_eq (by omega) (by omega)] at c
        · refine ⟨by rw [show (0 : Int32) = nI 0 from rfl, nI_eq (by omega) (by omega)]; omega, fun y ey => ?_⟩
          rw [show (60 : Int32) = nI 60 from rfl, nI_div (by omega) (by omega) (by omega), nI_add] at ey
          refine key _ ?_ _ _ _ _ _ _ _ _ _ _ _
          rw [ey, es, cpl, if_pos c]
        · exact key _ (by rw [c0 c]) _ _ _ _ _ _ _ _ _ _ _
    · refine fitsC_use hfi (wifp rfl ?_)
      unfold wX3_sixtiethsRuledOut_52
      refine bitCount_ok (m := 0) (by omega) ?_
      refine wifp (by decide) ?_
      unfold wX3_sixtiethsRuledOut_87
      have es : sxt L t n ki kv p (k + 1) = sxt L t n ki kv p k := by rw [sxt, if_neg hno]; rfl
      rw [show (1 : Int32) = nI 1 from rfl, nI_add, ← es]
      exact ih f (k + 1) _ _ _ _ _ _ _ _ _ _ _ (by omega) (by omega)
theorem sixtieths_ok {fu t n p : Nat} {ki kv : Nat → Nat} {lev L nu va : Nat → Int32} {Q : Int32 → Int32 → Int32 → Int32 → Int32 → Int32 → Int32 → Int32 → Int32 → Int32 → (Nat → Int32) → Int32 → Int32 → (Nat → Int32) → (Nat → Int32) → (Nat → Int32) → Prop} {b1 b2 b3 b4 b5 b6 b7 b8 b9 : Int32} {a12 : Nat → Int32} {a13 a14 : Int32} {a15 a16 a17 : Nat → Int32} (hfu : 1000 ≤ fu) (hw : CW lev (nI t) L t) (hbt : Bt L t) (hk : KN n ki kv (nI n) nu va) (hp : p < n)
    (h : ∀ b1 b2 b3 b4 b5 b6 b7 b8 b9 le rr tt fi la st, Q (nI (sxt L t n ki kv p 768)) b1 b2 b3 b4 b5 b6 b7 b8 b9 le rr tt fi la st) : wp_X3_sixtiethsRuledOut fu (nI t) lev (nI n) nu va (nI p) b1 b2 b3 b4 b5 b6 b7 b8 b9 a12 a13 a14 a15 a16 a17 Q := by
  unfold wp_X3_sixtiethsRuledOut
  refine listenTo_ok (by omega) hw (fun fi la hr => ?_)
  exact sixtieths_lp hfu hw hbt hr hk hp (fun b1 b2 b3 b4 b5 b6 b7 b8 b9 le st => h b1 b2 b3 b4 b5 b6 b7 b8 b9 le _ _ fi la st) 768 fu 0 _ _ _ _ _ _ _ _ _ _ _ (by omega) (by omega)
/-! the reference's share -/
theorem shm2_lp {fu t n p : Nat} {ki kv : Nat → Nat} {row L de nu va wo : Nat → Int32} {x2 : Int32} {Q : Int32 → Int32 → Int32 → Int32 → Int32 → Int32 → Int32 → Int32 → Int32 → Int32 → (Nat → Int32) → (Nat → Int32) → (Nat → Int32) → Prop} {b1 b2 b3 b4 b5 b6 b7 b8 b9 : Int32} {le st : Nat → Int32} (hfu : 1000 ≤ fu) (hn : n < 6) (hp : p < n) (hwo : ∀ S, S < 2 ^ n → wo S = nI (wrt L t n ki kv 768 S))
    (h : Q (lst (few L t n ki kv p 768 (2 ^ n)) (fct n) x2) b1 b2 b3 b4 b5 b6 b7 b8 b9 le st wo) :
    ∀ (j fuel s : Nat), s + j = 2 ^ n → j < fuel → wX10_share_53 fu (nI n) de va nu row (nI p) x2 Q fuel (nI (few L t n ki kv p 768 s)) (nI s) b1 b2 b3 b4 b5 b6 b7 b8 b9 le st wo := by
  have h32 : 2 ^ n ≤ 2 ^ 5 := Nat.pow_le_pow_right (by omega) (by omega)
  have fb : ∀ s, s ≤ 2 ^ n → few L t n ki kv p 768 s < 2 ^ 20 := fun s hs => few_le hn hp hs
  intro j
  induction j with
  | zero =>
    intro fuel s hs hf
    obtain ⟨f, rfl⟩ : ∃ f, fuel = f + 1 := ⟨fuel - 1, by omega⟩
    obtain rfl : s = 2 ^ n := by omega
    unfold wX10_share_53
    rw [shl1 (by omega)]
    refine wifp (by rw [nI_leI (by omega) (by omega)]; omega) ?_
    refine factorial_ok (by omega) (by omega) ?_
    have hfct : 0 < fct n ∧ fct n < 2 ^ 20 := by
      rcases (show n = 0 ∨ n = 1 ∨ n = 2 ∨ n = 3 ∨ n = 4 ∨ n = 5 by omega) with rfl | rfl | rfl | rfl | rfl | rfl <;> decide
    have := fb (2 ^ n) (Nat.le_refl _)
    exact fraction_ok (by omega) (by omega) hfct.1 hfct.2 h
  | succ j ih =>
    intro fuel s hs hf
    obtain ⟨f, rfl⟩ : ∃ f, fuel = f + 1 := ⟨fuel - 1, by omega⟩
    unfold wX10_share_53
    rw [shl1 (by omega)]
    refine wifn (by rw [nI_leI (by omega) (by omega)]; omega) ?_
    have key : ∀ x : Int32, x = nI (few L t n ki kv p 768 (s + 1)) → wX10_share_121 fu (nI n) de va nu row (nI p) x2 Q (wX10_share_53 fu (nI n) de va nu row (nI p) x2 Q f) x (nI s) b1 b2 b3 b4 b5 b6 b7 b8 b9 le st wo := by
      intro x ex
      subst ex
      unfold wX10_share_121
      rw [show (1 : Int32) = nI 1 from rfl, nI_add]
      exact ih f (s + 1) (by omega) (by omega)
    have es : few L t n ki kv p 768 (s + 1) = few L t n ki kv p 768 s + cst n p s * (wrt L t n ki kv 768 s - wrt L t n ki kv 768 (s ||| 2 ^ p)) := by
      unfold few; rw [sm]
    rw [shr_and (by omega) (by omega)]
    refine wif (fun c => ?_) (fun c => ?_) <;> rw [show (0 : Int32) = nI 0 from rfl, nI_eq (by omega) (by omega)] at c
    · obtain ⟨o1, o2, o3⟩ := tb_ones n hn p hp s (by omega) c
      have hm := wrt_mono (L := L) (t := t) (ki := ki) (kv := kv) hn hp (show s < 2 ^ n by omega) 768
      refine ones_ok (by omega) (by omega) (factorial_ok (by omega) (by omega) ?_)
      rw [show (1 : Int32) = nI 1 from rfl, nI_sub (by omega), nI_sub (by omega)]
      refine factorial_ok (by omega) (by omega) ?_
      rw [show nI 1 = (1 : Int32) from rfl, shl1 (by omega), nI_or]
      refine ⟨vin (by omega) (by omega), vin (by omega) (by omega), fun y ey => key y ?_⟩
      rw [ix_nI (by omega), ix_nI (by omega), hwo s (by omega), hwo _ o2, nI_sub hm, nI_mul, nI_mul, nI_add] at ey
      rw [ey, es, cst, if_pos c]
    · refine key _ ?_
      rw [es, cst, if_neg c, Nat.zero_mul]
      rfl
theorem shm1_lp {fu t n p : Nat} {ki kv : Nat → Nat} {row L de nu va : Nat → Int32} {x2 : Int32} {Q : Int32 → Int32 → Int32 → Int32 → Int32 → Int32 → Int32 → Int32 → Int32 → Int32 → (Nat → Int32) → (Nat → Int32) → (Nat → Int32) → Prop} (hfu : 1000 ≤ fu) (hw : MW row L t) (hk : KN n ki kv (nI n) nu va) (hp : p < n)
    (h : ∀ b1 b2 b3 b4 b5 b6 b7 b8 b9 le st wo, Q (lst (few L t n ki kv p 768 (2 ^ n)) (fct n) x2) b1 b2 b3 b4 b5 b6 b7 b8 b9 le st wo) :
    ∀ (j fuel s : Nat) (b1 b2 b3 b4 b5 b6 b7 b8 b9 : Int32) (le st wo : Nat → Int32), s + j = 2 ^ n → j < fuel → (∀ S, S < s → wo S = nI (wrt L t n ki kv 768 S)) → wX10_share_20 fu (nI n) de va nu row (nI p) x2 Q fuel (nI s) b1 b2 b3 b4 b5 b6 b7 b8 b9 le st wo := by
  have hn := hk.2.1
  have h32 : 2 ^ n ≤ 2 ^ 5 := Nat.pow_le_pow_right (by omega) (by omega)
  intro j
  induction j with
  | zero =>
    intro fuel s b1 b2 b3 b4 b5 b6 b7 b8 b9 le st wo hs hf hwo
    obtain ⟨f, rfl⟩ : ∃ f, fuel = f + 1 := ⟨fuel - 1, by omega⟩
    unfold wX10_share_20
    rw [shl1 (by omega)]
    refine wifp (by rw [nI_leI (by omega) (by omega)]; omega) ?_
    exact shm2_lp hfu (by omega) hp (fun S hS => hwo S (by omega)) (h _ _ _ _ _ _ _ _ _ _ _ _) (2 ^ n) fu 0 (by omega) (by omega)
  | succ j ih =>
    intro fuel s b1 b2 b3 b4 b5 b6 b7 b8 b9 le st wo hs hf hwo
    obtain ⟨f, rfl⟩ : ∃ f, fuel = f + 1 := ⟨fuel - 1, by omega⟩
    unfold wX10_share_20
    rw [shl1 (by omega)]
    refine wifn (by rw [nI_leI (by omega) (by omega)]; omega) ?_
    refine left_ok hfu hw (by omega) hk (fun _ c1 c2 c3 c4 c5 c6 c7 c8 c9 le' st' => ?_) (fun g => absurd rfl g)
    refine ⟨vin (by omega) (by omega), ?_⟩
    rw [show (1 : Int32) = nI 1 from rfl, nI_add, ix_nI (by omega)]
    refine ih f (s + 1) _ _ _ _ _ _ _ _ _ _ _ _ (by omega) (by omega) (fun S hS => ?_)
    rw [upd_ite]
    by_cases e : S = s
    · rw [if_pos e, e]; rfl
    · rw [if_neg e]; exact hwo S (by omega)
theorem shares_same {L : Nat → Int32} {t n p : Nat} {ki kv : Nat → Nat} {x2 : Int32} (hn : n < 6) (hp : p < n) : lst (sxt L t n ki kv p 768) 60 x2 = lst (few L t n ki kv p 768 (2 ^ n)) (fct n) x2 := by
  have hfct : 0 < fct n := by
    rcases (show n = 0 ∨ n = 1 ∨ n = 2 ∨ n = 3 ∨ n = 4 ∨ n = 5 by omega) with rfl | rfl | rfl | rfl | rfl | rfl <;> decide
  exact lst_same (by omega) hfct (few_sxt hn hp 768).symm
