/-! guesses by their number, codes -/
def gb (k : Nat) : Nat := k / 48 + 1
def gd (k : Nat) : Nat := k / 12 % 4 + 5
def gp (k : Nat) : Nat := k / 4 % 3
def gs (k : Nat) : Nat := k / 2 % 2 + 1
def gi (k : Nat) : Int32 := nI (1 - k % 2)
def cdN (k : Nat) : Nat := gb k * 10000 + gd k * 1000 + gp k * 100 + gs k * 10 + k % 2
theorem gi_bit (k : Nat) : gi k = 0 ∨ gi k = 1 := by
  unfold gi
  rcases (show k % 2 = 0 ∨ k % 2 = 1 by omega) with e | e <;> rw [e]
  · exact Or.inr rfl
  · exact Or.inl rfl
theorem gok {k : Nat} (h : k < 768) : GOK (gb k) (gd k) (gp k) (gs k) (gi k) := by
  refine ⟨?_, ?_, ?_, ?_, ?_, ?_, ?_, gi_bit k⟩ <;> first | unfold gb | unfold gd | unfold gp | unfold gs
  all_goals omega
def CK (c : Nat) : Prop := 1 ≤ c / 10000 ∧ c / 10000 ≤ 16 ∧ 5 ≤ c / 1000 % 10 ∧ c / 1000 % 10 ≤ 8 ∧ c / 100 % 10 ≤ 2 ∧ 1 ≤ c / 10 % 10 ∧ c / 10 % 10 ≤ 2 ∧ c % 10 ≤ 1
theorem CK_gok {c : Nat} (h : CK c) : GOK (c / 10000) (c / 1000 % 10) (c / 100 % 10) (c / 10 % 10) (nI (1 - c % 10)) := by
  obtain ⟨h1, h2, h3, h4, h5, h6, h7, h8⟩ := h
  refine ⟨h1, h2, h3, h4, h5, h6, h7, ?_⟩
  rcases (show c % 10 = 0 ∨ c % 10 = 1 by omega) with e | e <;> rw [e]
  · exact Or.inr rfl
  · exact Or.inl rfl
theorem cdN_parts {k : Nat} (h : k < 768) : cdN k / 10000 = gb k ∧ cdN k / 1000 % 10 = gd k ∧ cdN k / 100 % 10 = gp k ∧ cdN k / 10 % 10 = gs k ∧ cdN k % 10 = k % 2 ∧ cdN k < 200000 := by
  obtain ⟨h1, h2, h3, h4, h5, h6, h7, -⟩ := gok h
  have h8 : k % 2 < 2 := Nat.mod_lt _ (by decide)
  unfold cdN
  generalize gb k = x1 at *
  generalize gd k = x2 at *
  generalize gp k = x3 at *
  generalize gs k = x4 at *
  generalize k % 2 = x5 at *
  refine ⟨?_, ?_, ?_, ?_, ?_, ?_⟩ <;> omega
theorem cdN_ck {k : Nat} (h : k < 768) : CK (cdN k) := by
  obtain ⟨e1, e2, e3, e4, e5, -⟩ := cdN_parts h
  obtain ⟨h1, h2, h3, h4, h5, h6, h7, -⟩ := gok h
  unfold CK
  rw [e1, e2, e3, e4, e5]
  omega
theorem become_ok {fu k : Nat} {a b c d e : Int32} {Q : Int32 → Int32 → Int32 → Int32 → Int32 → Prop} (hk : k < 768) (h : Q (nI (gb k)) (nI (gd k)) (gi k) (nI (gp k)) (nI (gs k))) : wp_X1_become fu (nI k) a b c d e Q := by
  unfold wp_X1_become
  unfold gb gd gi gp gs at h
  have h2 : k % 2 < 2 := Nat.mod_lt _ (by decide)
  simp (disch := omega) only [lit_nI, nI_div, irm_nI, nI_add, nI_sub]
  exact h
theorem code_ok {fu b d p s o : Nat} {Q : Int32 → Prop} (ho : o ≤ 1) (h : Q (nI (b * 10000 + d * 1000 + p * 100 + s * 10 + o))) : wp_X1_code fu (nI b) (nI d) (nI (1 - o)) (nI p) (nI s) Q := by
  unfold wp_X1_code
  simp (disch := omega) only [lit_nI, nI_mul, nI_add, nI_sub]
  rw [show b * 10000 + d * 1000 + p * 100 + s * 10 + 1 - (1 - o) = b * 10000 + d * 1000 + p * 100 + s * 10 + o by omega]
  exact h
theorem codeK_ok {fu k : Nat} {Q : Int32 → Prop} (h : Q (nI (cdN k))) : wp_X1_code fu (nI (gb k)) (nI (gd k)) (gi k) (nI (gp k)) (nI (gs k)) Q := by
  have h2 : k % 2 < 2 := Nat.mod_lt _ (by decide)
  exact code_ok (by omega) h
theorem codeOf_ok {fu k : Nat} {Q : Int32 → Prop} (hk : k < 768) (h : Q (nI (cdN k))) : wp_X10_codeOf fu (nI k) Q := by
  unfold wp_X10_codeOf
  unfold cdN gb gd gp gs at h
  simp (disch := omega) only [lit_nI, nI_div, irm_nI, nI_add, nI_mul]
  rw [show 10000 * (k / 48 + 1) + 1000 * (k / 12 % 4 + 5) + 100 * (k / 4 % 3) + 10 * (k / 2 % 2 + 1) + k % 2 = (k / 48 + 1) * 10000 + (k / 12 % 4 + 5) * 1000 + k / 4 % 3 * 100 + (k / 2 % 2 + 1) * 10 + k % 2 by omega]
  exact h
theorem isToldBy_ok {fu : Nat} {x a b c d e : Int32} {Q : Int32 → Int32 → Int32 → Int32 → Int32 → Int32 → Prop} (h1 : ∀ c, c < 2 ^ 31 → x = nI c → CK c → Q 1 (nI (c / 10000)) (nI (c / 1000 % 10)) (nI (1 - c % 10)) (nI (c / 100 % 10)) (nI (c / 10 % 10))) (h0 : (¬ ∃ c, c < 2 ^ 31 ∧ x = nI c ∧ CK c) → Q 0 a b c d e) : wp_X1_isToldBy fu x a b c d e Q := by
  unfold wp_X1_isToldBy
  intro y1 e1 y2 e2 y3 e3 y4 e4 y5 e5
  by_cases hn : x < 0
  · refine wifp hn (h0 ?_)
    rintro ⟨c, hc, rfl, -⟩
    exact nI_pos hc hn
  · refine wifn hn ?_
    obtain ⟨n, hn2, rfl⟩ := nI_of hn
    simp (disch := omega) only [lit_nI, nI_div, irm_nI] at e1 e2 e3 e4 e5
    subst e1 e2 e3 e4 e5
    have no : ¬ CK n → Q 0 a b c d e := by
      intro hck
      refine h0 ?_
      rintro ⟨m, hm, e, hm2⟩
      rw [nI_eq hn2 hm] at e
      subst e
      exact hck hm2
    simp (disch := omega) only [lit_nI]
    refine wif (fun c => no (fun hh => ?_)) (fun c1 => ?_)
    · rw [nI_ltI (by omega) (by omega)] at c; unfold CK at hh; omega
    refine wif (fun c => no (fun hh => ?_)) (fun c2 => ?_)
    · rw [nI_ltI (by omega) (by omega)] at c; unfold CK at hh; omega
    refine wif (fun c => no (fun hh => ?_)) (fun c3 => ?_)
    · rw [nI_ltI (by omega) (by omega)] at c; unfold CK at hh; omega
    refine wif (fun c4 => ?_) (fun c => no (fun hh => ?_))
    · refine wif (fun c => no (fun hh => ?_)) (fun c5 => ?_)
      · rw [nI_ltI (by omega) (by omega)] at c; unfold CK at hh; omega
      refine wif (fun c => no (fun hh => ?_)) (fun c6 => ?_)
      · rw [nI_ltI (by omega) (by omega)] at c; unfold CK at hh; omega
      refine wif (fun c => no (fun hh => ?_)) (fun c7 => ?_)
      · rw [nI_ltI (by omega) (by omega)] at c; unfold CK at hh; omega
      refine wif (fun c8 => ?_) (fun c => no (fun hh => ?_))
      · rw [nI_ltI (by omega) (by omega)] at c1 c2 c3 c5 c6 c7
        rw [nI_leI (by omega) (by omega)] at c4 c8
        rw [nI_sub (by omega)]
        exact h1 n hn2 rfl (by unfold CK; omega)
      · rw [nI_leI (by omega) (by omega)] at c; unfold CK at hh; omega
    · rw [nI_leI (by omega) (by omega)] at c; unfold CK at hh; omega
theorem inN_ok {fu n : Nat} {lo hi : Int64} {Q : Int32 → Prop} (hn : n < 2 ^ 31) (h1 : lo.toInt ≤ n ∧ (n : Int) ≤ hi.toInt → Q 1) (h2 : ¬ (lo.toInt ≤ n ∧ (n : Int) ≤ hi.toInt) → Q 0) : wp_X10_in fu (Int32.toInt64 (nI n)) lo hi Q := by
  refine in_ok (fun c => h1 ?_) (fun c => h2 ?_) <;> rw [nI_toInt hn] at c <;> exact c
theorem layCode_ok {fu : Nat} {x a b c d e : Int32} {Q : Int32 → Int32 → Int32 → Int32 → Int32 → Int32 → Prop} (h1 : ∀ c, c < 2 ^ 31 → x = nI c → CK c → Q 1 (nI (c / 1000 % 10)) (nI (1 - c % 10)) (nI (c / 100 % 10)) (nI (c / 10 % 10)) (nI (c / 10000))) (h0 : (¬ ∃ c, c < 2 ^ 31 ∧ x = nI c ∧ CK c) → ∀ z1 z2 z3 z4 z5, Q 0 z1 z2 z3 z4 z5) : wp_X10_layCode fu x a b c d e Q := by
  unfold wp_X10_layCode
  intro y1 e1
  by_cases hn : x < 0
  · refine wifp (by rw [Int32.lt_iff_toInt_lt] at hn; rw [Int32.le_iff_toInt_le]; omega) (h0 ?_ _ _ _ _ _)
    rintro ⟨c, hc, rfl, -⟩
    exact nI_pos hc hn
  · obtain ⟨n, hn2, rfl⟩ := nI_of hn
    have no : ¬ CK n → ∀ z1 z2 z3 z4 z5, Q 0 z1 z2 z3 z4 z5 := by
      intro hck
      refine h0 ?_
      rintro ⟨m, hm, e, hm2⟩
      rw [nI_eq hn2 hm] at e
      subst e
      exact hck hm2
    simp (disch := omega) only [lit_nI, nI_div, irm_nI] at e1
    subst e1
    simp (disch := omega) only [lit_nI, nI_div, irm_nI]
    refine wif (fun c => no (fun hh => ?_) _ _ _ _ _) (fun c0 => ?_)
    · rw [nI_leI (by omega) (by omega)] at c; unfold CK at hh; omega
    have l1 : (1 : Int64).toInt = 1 := rfl
    have l16 : (16 : Int64).toInt = 16 := rfl
    have l5 : (5 : Int64).toInt = 5 := rfl
    have l8 : (8 : Int64).toInt = 8 := rfl
    have l0 : (0 : Int64).toInt = 0 := rfl
    have l2 : (2 : Int64).toInt = 2 := rfl
    refine inN_ok (by omega) (fun c1 => wifn (by decide) ?_) (fun c => wifp rfl (no (fun hh => ?_) _ _ _ _ _))
    · rw [l1, l16] at c1
      refine inN_ok (by omega) (fun c2 => wifn (by decide) ?_) (fun c => wifp rfl (no (fun hh => ?_) _ _ _ _ _))
      · rw [l5, l8] at c2
        refine inN_ok (by omega) (fun c3 => wifn (by decide) ?_) (fun c => wifp rfl (no (fun hh => ?_) _ _ _ _ _))
        · rw [l0, l2] at c3
          refine inN_ok (by omega) (fun c4 => wifn (by decide) ?_) (fun c => wifp rfl (no (fun hh => ?_) _ _ _ _ _))
          · rw [l1, l2] at c4
            refine inN_ok (by omega) (fun c5 => wifn (by decide) ?_) (fun c => wifp rfl (no (fun hh => ?_) _ _ _ _ _))
            · rw [l0, l1] at c5
              rw [nI_sub (by omega)]
              exact h1 n hn2 rfl (by unfold CK; omega)
            · rw [l0, l1] at c; unfold CK at hh; omega
          · rw [l1, l2] at c; unfold CK at hh; omega
        · rw [l0, l2] at c; unfold CK at hh; omega
      · rw [l5, l8] at c; unfold CK at hh; omega
    · rw [l1, l16] at c; unfold CK at hh; omega
theorem layCodeK_ok {fu k : Nat} {a b c d e : Int32} {Q : Int32 → Int32 → Int32 → Int32 → Int32 → Int32 → Prop} (hk : k < 768) (h : Q 1 (nI (gd k)) (gi k) (nI (gp k)) (nI (gs k)) (nI (gb k))) : wp_X10_layCode fu (nI (cdN k)) a b c d e Q := by
  obtain ⟨e1, e2, e3, e4, e5, e6⟩ := cdN_parts hk
  refine layCode_ok (fun c hc ec _ => ?_) (fun hno => absurd ⟨cdN k, by omega, rfl, cdN_ck hk⟩ hno)
  rw [nI_eq (by omega) hc] at ec
  subst ec
  rw [e1, e2, e3, e4, e5]
  exact h
/-! what a guess reads of a wire -/
def RK (L : Nat → Int32) (t k : Nat) : List Nat × Nat × Nat := RD L t (gb k) (gd k) (gp k) (gs k) (gi k) 1
abbrev fitK (L : Nat → Int32) (t k : Nat) : Prop := (RK L t k).2.1 = 0 ∧ (RK L t k).1.length ≠ 0
def mK (L : Nat → Int32) (t k : Nat) : Nat := mgl L t (gb k) (gd k) (gp k) (gs k) 360 (RK L t k).1
def nK (L : Nat → Int32) (t k : Nat) : Nat := (RK L t k).1.length
def lK (L : Nat → Int32) (k x : Nat) : Nat := LTR L (gb k) (gd k) (gp k) (gs k) (gi k) x
theorem RD_len {L : Nat → Int32} {t b d p s : Nat} {idle : Int32} (hg : GOK b d p s idle) : ∀ (k i : Nat), t - i ≤ k → 6 * (RD L t b d p s idle i).1.length ≤ (t - i) + 5 := by
  intro k
  induction k with
  | zero => intro i h; rw [RD_end (by omega)]; show 6 * 0 ≤ _; omega
  | succ k ih =>
    intro i h
    by_cases c : i < t
    · by_cases c2 : L i ≠ idle ∧ L (i - 1) = idle
      · by_cases c3 : fc L t b d p idle i (nb d p s) = 0
        · rw [RD_ok hg c c2 c3]
          have hk := tkb_gt hg i
          have hnb := nb_le hg
          have hin := fc_in (show nb d p s - 1 < nb d p s by omega) c3
          have := ih (tkb b i (nb d p s - 1)) (by omega)
          rw [List.length_cons]
          omega
        · rw [RD_fail c c2 c3]; show 6 * 0 ≤ _; omega
      · rw [RD_no c c2]
        have := ih (i + 1) (by omega)
        omega
    · rw [RD_end (by omega)]; show 6 * 0 ≤ _; omega
theorem nK_le {L : Nat → Int32} {t k : Nat} (ht : t ≤ 360) (hk : k < 768) : nK L t k ≤ 60 := by
  have := RD_len (L := L) (t := t) (gok hk) t 1 (by omega)
  unfold nK RK
  omega
theorem mK_le {L : Nat → Int32} {t k : Nat} : mK L t k ≤ 360 := mgl_le _ _
theorem fitsC_ok {fu : Nat} {fl fr : Int32} {Q : Int32 → Prop} (h1 : fl = 0 → ¬ fr ≤ 0 → Q 1) (h0 : ¬ (fl = 0 ∧ ¬ fr ≤ 0) → Q 0) : wp_X4_fits fu fl fr Q := by
  unfold wp_X4_fits
  exact wif (fun c => wif (fun c2 => h0 (fun hh => hh.2 c2)) (fun c2 => h1 c c2)) (fun c => h0 (fun hh => c hh.1))
theorem fitsM_ok {fu : Nat} {fl fr : Int32} {Q : Int32 → Prop} (h1 : fl = 0 → ¬ fr ≤ 0 → Q 1) (h0 : ¬ (fl = 0 ∧ ¬ fr ≤ 0) → Q 0) : wp_X10_fits fu fl fr Q := by
  unfold wp_X10_fits
  exact wif (fun c => wif (fun c2 => h0 (fun hh => hh.2 c2)) (fun c2 => h1 c c2)) (fun c => h0 (fun hh => c hh.1))
/-- the class reads by guess k: what comes of it -/
theorem readK_C {fu t k : Nat} {lev L fi la le0 st0 : Nat → Int32} {a1 a2 a3 a4 : Int32} {Q : Int32 → Int32 → Int32 → Int32 → (Nat → Int32) → (Nat → Int32) → Prop} (hfu : 400 ≤ fu) (hw : CW lev (nI t) L t) (hbt : Bt L t) (hr : RunsOK L t fi la) (hk : k < 768)
    (h1 : fitK L t k → ∀ fs le st, (∀ j x, (RK L t k).1[j]? = some x → le j = nI (lK L k x)) → wp_X4_fits fu 0 (nI (nK L t k)) (fun r => r = 1) → Q fs 0 (nI (nK L t k)) (nI (mK L t k)) le st) (h0 : ¬ fitK L t k → ∀ fs fl fr mm le st, wp_X4_fits fu fl fr (fun r => r = 0) → Q fs fl fr mm le st) :
    wp_X4_read fu (nI t) lev (nI t) fi la (nI (gb k)) (nI (gd k)) (gi k) (nI (gp k)) (nI (gs k)) a1 a2 a3 a4 le0 st0 Q := by
  have ht := hw.2.1
  have hn := nK_le (L := L) ht hk
  refine readC_ok hfu hw hbt hr (gok hk) (fun le st hls => ⟨fun hz => ?_, fun hz mm => ?_⟩)
  · by_cases c : (RK L t k).1.length = 0
    · refine h0 (fun hh => hh.2 c) _ _ _ _ _ _ ?_
      refine fitsC_ok (fun _ hh => absurd ?_ hh) (fun _ => rfl)
      have e : (RD L t (gb k) (gd k) (gp k) (gs k) (gi k) 1).1.length = 0 := c
      rw [e]
      decide
    · refine h1 ⟨hz, c⟩ _ _ _ (fun j x hx => (hls j x hx).2) ?_
      refine fitsC_ok (fun _ _ => rfl) (fun hh => absurd ⟨rfl, ?_⟩ hh)
      have : 0 < nK L t k := Nat.pos_of_ne_zero c
      exact nI_nle this (by omega)
  · refine h0 (fun hh => hz hh.1) _ _ _ _ _ _ ?_
    refine fitsC_ok (fun hh _ => absurd hh ?_) (fun _ => rfl)
    have h4 := (RD_code (L := L) (t := t) (gok hk) t 1 (by omega)).1
    exact nI_ne0 (Nat.pos_of_ne_zero hz) (by omega)
/-- the reference reads by guess k -/
theorem readK_M {fu t k : Nat} {row L deep le0 st0 : Nat → Int32} {a1 a2 a3 a4 : Int32} {Q : Int32 → Int32 → Int32 → Int32 → (Nat → Int32) → (Nat → Int32) → Prop} (hfu : 400 ≤ fu) (hw : MW row L t) (hk : k < 768)
    (h1 : fitK L t k → ∀ fs mm le st, (DeepOK L t deep → mm = nI (mK L t k)) → (∀ j x, (RK L t k).1[j]? = some x → le j = nI (lK L k x)) → wp_X10_fits fu 0 (nI (nK L t k)) (fun r => r = 1) → Q 0 fs (nI (nK L t k)) mm le st) (h0 : ¬ fitK L t k → ∀ fs fl fr mm le st, wp_X10_fits fu fl fr (fun r => r = 0) → Q fl fs fr mm le st) :
    wp_X10_read fu (nI (gd k)) (gi k) (nI (gp k)) (nI (gs k)) (nI (gb k)) deep row a1 a2 a3 a4 le0 st0 Q := by
  have ht := hw.2.1
  have hn := nK_le (L := L) ht hk
  refine readM_ok hfu hw (gok hk) (fun le st hls => ⟨fun hz => ?_, fun hz mm => ?_⟩)
  · by_cases c : (RK L t k).1.length = 0
    · refine h0 (fun hh => hh.2 c) _ _ _ _ _ _ ?_
      refine fitsM_ok (fun _ hh => absurd ?_ hh) (fun _ => rfl)
      have e : (RD L t (gb k) (gd k) (gp k) (gs k) (gi k) 1).1.length = 0 := c
      rw [e]
      decide
    · refine h1 ⟨hz, c⟩ _ _ _ _ (fun hd => ?_) (fun j x hx => (hls j x hx).2) ?_
      · exact mglD_ok hd ht _ 360 (by omega) (fun x hx => (RD_mem (gok hk) t 1 (by omega) x hx).2)
      refine fitsM_ok (fun _ _ => rfl) (fun hh => absurd ⟨rfl, ?_⟩ hh)
      have : 0 < nK L t k := Nat.pos_of_ne_zero c
      exact nI_nle this (by omega)
  · refine h0 (fun hh => hz hh.1) _ _ _ _ _ _ ?_
    refine fitsM_ok (fun hh _ => absurd hh ?_) (fun _ => rfl)
    have h4 := (RD_code (L := L) (t := t) (gok hk) t 1 (by omega)).1
    exact nI_ne0 (Nat.pos_of_ne_zero hz) (by omega)
theorem fitsC_use {fu : Nat} {fl fr r : Int32} {Q : Int32 → Prop} (h : wp_X4_fits fu fl fr (fun x => x = r)) (hq : Q r) : wp_X4_fits fu fl fr Q := by
  unfold wp_X4_fits at h ⊢
  split <;> rename_i c
  · rw [if_pos c] at h
    split <;> rename_i c2
    · rw [if_pos c2] at h; rw [h]; exact hq
    · rw [if_neg c2] at h; rw [h]; exact hq
  · rw [if_neg c] at h; rw [h]; exact hq
theorem fitsM_use {fu : Nat} {fl fr r : Int32} {Q : Int32 → Prop} (h : wp_X10_fits fu fl fr (fun x => x = r)) (hq : Q r) : wp_X10_fits fu fl fr Q := by
  unfold wp_X10_fits at h ⊢
  split <;> rename_i c
  · rw [if_pos c] at h
    split <;> rename_i c2
    · rw [if_pos c2] at h; rw [h]; exact hq
    · rw [if_neg c2] at h; rw [h]; exact hq
  · rw [if_neg c] at h; rw [h]; exact hq
