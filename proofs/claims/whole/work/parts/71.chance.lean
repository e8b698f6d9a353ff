/-! ticks flipped by chance -/
abbrev ftR (R : List Nat × Nat × Nat) : Prop := R.2.1 = 0 ∧ R.1.length ≠ 0
theorem rdfC_ok {fu t b d p s : Nat} {lev L fi la le0 st0 : Nat → Int32} {idle a1 a2 a3 a4 : Int32} {Q : Int32 → Int32 → Int32 → Int32 → Int32 → (Nat → Int32) → (Nat → Int32) → Prop} (hfu : 400 ≤ fu) (hw : CW lev (nI t) L t) (hbt : Bt L t) (hr : RunsOK L t fi la) (hg : GOK b d p s idle)
    (h1 : ftR (RD L t b d p s idle 1) → ∀ z1 z2 z3 z4 le st, Q 1 z1 z2 z3 z4 le st) (h0 : ¬ ftR (RD L t b d p s idle 1) → ∀ z1 z2 z3 z4 le st, Q 0 z1 z2 z3 z4 le st) : wp_X4_read fu (nI t) lev (nI t) fi la (nI b) (nI d) idle (nI p) (nI s) a1 a2 a3 a4 le0 st0 (fun z1 z2 z3 z4 le st => wp_X4_fits fu z2 z3 (fun r => Q r z1 z2 z3 z4 le st)) := by
  have ht := hw.2.1
  have hlen := RD_len2 (L := L) hg ht
  have hcode := RD_code (L := L) (t := t) hg t 1 (by omega)
  refine readC_ok hfu hw hbt hr hg (fun le st _ => ⟨fun hz => ?_, fun hz mm => ?_⟩)
  · refine fitsC_ok (fun _ g1 => h1 ⟨hz, fun e => g1 (by rw [e]; decide)⟩ _ _ _ _ _ _) (fun g1 => h0 (fun e => g1 ⟨rfl, fun q => ?_⟩) _ _ _ _ _ _)
    have := e.2
    rw [show (0 : Int32) = nI 0 from rfl, nI_leI (by omega) (by omega)] at q
    omega
  · refine fitsC_ok (fun g1 _ => absurd g1 ?_) (fun _ => h0 (fun e => hz e.1) _ _ _ _ _ _)
    rw [show (0 : Int32) = nI 0 from rfl, nI_eq (by omega) (by omega)]; omega
theorem rdfM_ok {fu t b d p s : Nat} {row L deep le0 st0 : Nat → Int32} {idle a1 a2 a3 a4 : Int32} {Q : Int32 → Int32 → Int32 → Int32 → Int32 → (Nat → Int32) → (Nat → Int32) → Prop} (hfu : 400 ≤ fu) (hw : MW row L t) (hg : GOK b d p s idle)
    (h1 : ftR (RD L t b d p s idle 1) → ∀ z1 z2 z3 z4 le st, Q 1 z1 z2 z3 z4 le st) (h0 : ¬ ftR (RD L t b d p s idle 1) → ∀ z1 z2 z3 z4 le st, Q 0 z1 z2 z3 z4 le st) : wp_X10_read fu (nI d) idle (nI p) (nI s) (nI b) deep row a1 a2 a3 a4 le0 st0 (fun z1 z2 z3 z4 le st => wp_X10_fits fu z1 z3 (fun r => Q r z1 z2 z3 z4 le st)) := by
  have ht := hw.2.1
  have hlen := RD_len2 (L := L) hg ht
  have hcode := RD_code (L := L) (t := t) hg t 1 (by omega)
  refine readM_ok hfu hw hg (fun le st _ => ⟨fun hz => ?_, fun hz mm => ?_⟩)
  · refine fitsM_ok (fun _ g1 => h1 ⟨hz, fun e => g1 (by rw [e]; decide)⟩ _ _ _ _ _ _) (fun g1 => h0 (fun e => g1 ⟨rfl, fun q => ?_⟩) _ _ _ _ _ _)
    have := e.2
    rw [show (0 : Int32) = nI 0 from rfl, nI_leI (by omega) (by omega)] at q
    omega
  · refine fitsM_ok (fun g1 _ => absurd g1 ?_) (fun _ => h0 (fun e => hz e.1) _ _ _ _ _ _)
    rw [show (0 : Int32) = nI 0 from rfl, nI_eq (by omega) (by omega)]; omega
/-- with the ticks at the first q edges that s tells turned over -/
def FK (L : Nat → Int32) (s q : Nat) : Nat → Int32 := fun i => if 1 ≤ i ∧ L i ≠ L (i - 1) ∧ rc L i - 1 < q ∧ bt s (rc L i - 1) = 1 then 1 - L i else L i
def SH (L : Nat → Int32) (t q : Nat) (sh : Nat → Int32) : Prop := ∀ k, k < q → ∃ e, sh k = nI e ∧ 1 ≤ e ∧ e < t ∧ L e ≠ L (e - 1) ∧ rc L e = k + 1
theorem FK_Bt {L : Nat → Int32} {t s q : Nat} (h : Bt L t) : Bt (FK L s q) t := by
  intro i hi
  unfold FK
  by_cases c : 1 ≤ i ∧ L i ≠ L (i - 1) ∧ rc L i - 1 < q ∧ bt s (rc L i - 1) = 1
  · rw [if_pos c]; exact not_bit (h i hi)
  · rw [if_neg c]; exact h i hi
theorem rc_edge {L : Nat → Int32} {i : Nat} (h : L i ≠ L (i - 1)) : rc L (i + 1) = rc L i + 1 := by rw [rc, if_pos (Or.inr h)]
theorem rc_mono2 {L : Nat → Int32} {a b : Nat} (h : a ≤ b) : rc L a ≤ rc L b := by
  have := rc_mono (L := L) (b - a) a
  rwa [show a + (b - a) = b by omega] at this
theorem edge_inj {L : Nat → Int32} {i e : Nat} (h1 : L i ≠ L (i - 1)) (h2 : L e ≠ L (e - 1)) (h : rc L i = rc L e) : i = e := by
  have g1 := rc_edge h1
  have g2 := rc_edge h2
  rcases Nat.lt_trichotomy i e with q | q | q
  · have := rc_mono2 (L := L) (show i + 1 ≤ e by omega); omega
  · exact q
  · have := rc_mono2 (L := L) (show e + 1 ≤ i by omega); omega
theorem FK_zero {L : Nat → Int32} {s i : Nat} : FK L s 0 i = L i := by
  unfold FK
  rw [if_neg (fun c => by omega)]
theorem FK_no {L : Nat → Int32} {s k i : Nat} (h : ¬ bt s k = 1) : FK L s (k + 1) i = FK L s k i := by
  unfold FK
  by_cases c : 1 ≤ i ∧ L i ≠ L (i - 1) ∧ rc L i - 1 < k ∧ bt s (rc L i - 1) = 1
  · rw [if_pos c, if_pos ⟨c.1, c.2.1, by omega, c.2.2.2⟩]
  · rw [if_neg c, if_neg]
    rintro ⟨g1, g2, g3, g4⟩
    by_cases e : rc L i - 1 = k
    · rw [e] at g4; exact h g4
    · exact c ⟨g1, g2, by omega, g4⟩
theorem FK_yes {L : Nat → Int32} {s k i e : Nat} (h : bt s k = 1) (h1 : 1 ≤ e) (h2 : L e ≠ L (e - 1)) (h3 : rc L e = k + 1) : FK L s (k + 1) i = fl (FK L s k) e i := by
  unfold fl
  by_cases c : i = e
  · rw [if_pos c]
    subst c
    unfold FK
    rw [if_pos ⟨h1, h2, by omega, by rw [h3]; exact h⟩, if_neg (fun q => by omega)]
  · rw [if_neg c]
    unfold FK
    by_cases g : 1 ≤ i ∧ L i ≠ L (i - 1) ∧ rc L i - 1 < k ∧ bt s (rc L i - 1) = 1
    · rw [if_pos g, if_pos ⟨g.1, g.2.1, by omega, g.2.2.2⟩]
    · rw [if_neg g, if_neg]
      rintro ⟨g1, g2, g3, g4⟩
      have hp := rc_pos (L := L) (show 0 < i by omega)
      by_cases e2 : rc L i - 1 = k
      · exact c (edge_inj g2 h2 (by omega))
      · exact g ⟨g1, g2, by omega, g4⟩
theorem bt_high {s q k : Nat} (h : s < 2 ^ q) (hk : q ≤ k) : bt s k = 0 := by
  unfold bt
  have : 2 ^ q ≤ 2 ^ k := Nat.pow_le_pow_right (by omega) hk
  rw [Nat.div_eq_of_lt (by omega)]
theorem FK_six {L : Nat → Int32} {s q i : Nat} (h : s < 2 ^ q) (hq : q ≤ 6) : FK L s 6 i = FK L s q i := by
  unfold FK
  by_cases g : 1 ≤ i ∧ L i ≠ L (i - 1) ∧ rc L i - 1 < q ∧ bt s (rc L i - 1) = 1
  · rw [if_pos g, if_pos ⟨g.1, g.2.1, by omega, g.2.2.2⟩]
  · rw [if_neg g, if_neg]
    rintro ⟨g1, g2, g3, g4⟩
    by_cases e : rc L i - 1 < q
    · exact g ⟨g1, g2, e, g4⟩
    · rw [bt_high h (by omega)] at g4; omega
def mn (n r : Nat) : Nat := if n ≤ r then n else r
theorem shaky_lp {fu t n : Nat} {lev L : Nat → Int32} {Q : Int32 → (Nat → Int32) → Prop} (hw : CW lev (nI t) L t) (hn : n ≤ 6) (h : ∀ sh, SH L t (mn n (rc L t - 1)) sh → Q (nI (mn n (rc L t - 1))) sh) : ∀ (j fuel k : Nat) (sh : Nat → Int32), k + j = t → 1 ≤ k → j < fuel → rc L k - 1 ≤ n → SH L t (rc L k - 1) sh → wX9_findShakyTicks_4 fu (nI t) lev (nI n) Q fuel (nI (rc L k - 1)) (nI k) sh := by
  have ht := hw.2.1
  intro j
  induction j with
  | zero =>
    intro fuel k sh hk k1 hf hle hs
    obtain ⟨f, rfl⟩ : ∃ f, fuel = f + 1 := ⟨fuel - 1, by omega⟩
    obtain rfl : k = t := by omega
    unfold wX9_findShakyTicks_4
    refine wifp (by rw [nI_leI (by omega) (by omega)]; omega) ?_
    have e : mn n (rc L k - 1) = rc L k - 1 := by
      unfold mn
      by_cases q : n ≤ rc L k - 1
      · rw [if_pos q]; omega
      · rw [if_neg q]
    rw [e] at h
    exact h sh hs
  | succ j ih =>
    intro fuel k sh hk k1 hf hle hs
    obtain ⟨f, rfl⟩ : ∃ f, fuel = f + 1 := ⟨fuel - 1, by omega⟩
    have hp := rc_pos (L := L) (show 0 < k by omega)
    unfold wX9_findShakyTicks_4
    refine wifn (by rw [nI_leI (by omega) (by omega)]; omega) ?_
    refine wif (fun g => ?_) (fun g => ?_) <;> rw [nI_leI (by omega) (by omega)] at g
    · have hm := rc_mono2 (L := L) (show k ≤ t by omega)
      have e : mn n (rc L t - 1) = rc L k - 1 := by
        unfold mn
        rw [if_pos (by omega)]; omega
      rw [e] at h
      exact h sh hs
    · refine wifn (by rw [show (6 : Int32) = nI 6 from rfl, nI_leI (by omega) (by omega)]; omega) ?_
      refine isEdge_ok hw (by omega) (by omega) (fun g1 => wifn (by decide) ⟨vin (by omega) (by omega), ?_⟩) (fun g1 => wifp rfl ?_)
      · have e := rc_edge g1
        unfold wX9_findShakyTicks_47
        rw [show (1 : Int32) = nI 1 from rfl, nI_add, nI_add, ix_nI (by omega), show rc L k - 1 + 1 = rc L (k + 1) - 1 by omega]
        refine ih f (k + 1) _ (by omega) (by omega) (by omega) (by omega) (fun q hq => ?_)
        by_cases e2 : q = rc L k - 1
        · exact ⟨k, by rw [e2, upd_s], by omega, by omega, g1, by omega⟩
        · rw [upd_n e2]; exact hs q (by omega)
      · have e : rc L (k + 1) = rc L k := by rw [rc, if_neg (by intro hh; rcases hh with hh | hh; omega; exact hh g1)]; rfl
        unfold wX9_findShakyTicks_47
        rw [show (1 : Int32) = nI 1 from rfl, nI_add, show rc L k - 1 = rc L (k + 1) - 1 by omega]
        refine ih f (k + 1) _ (by omega) (by omega) (by omega) (by omega) (fun q hq => hs q (by omega))
theorem shaky_ok {fu t n : Nat} {lev L sh0 : Nat → Int32} {Q : Int32 → (Nat → Int32) → Prop} (hfu : 400 ≤ fu) (hw : CW lev (nI t) L t) (hn : n ≤ 6) (h : ∀ sh, SH L t (mn n (rc L t - 1)) sh → Q (nI (mn n (rc L t - 1))) sh) : wp_X9_findShakyTicks fu (nI t) lev (nI n) sh0 Q := by
  have ht := hw.2.1
  unfold wp_X9_findShakyTicks
  have e1 : rc L 1 - 1 = 0 := by rw [rc, rc, if_pos (Or.inl rfl)]
  by_cases c : t = 0
  · subst c
    obtain ⟨f, rfl⟩ : ∃ f, fu = f + 1 := ⟨fu - 1, by omega⟩
    unfold wX9_findShakyTicks_4
    refine wifp (by decide) ?_
    have e : mn n (rc L 0 - 1) = 0 := by
      unfold mn
      rw [show rc L 0 = 0 from rfl]
      split <;> omega
    rw [e] at h
    exact h sh0 (fun k hk => by omega)
  · have g := shaky_lp (fu := fu) hw hn h (t - 1) fu 1 sh0 (by omega) (by omega) (by omega) (by omega) (fun k hk => by omega)
    rw [e1] at g
    exact g
def wtt (x s : Nat) (q : Nat) : Nat := x ^ onn s q * (10 - x) ^ (q - onn s q)
theorem wtt_succ {x s k : Nat} : wtt x s (k + 1) = wtt x s k * (if bt s k = 1 then x else 10 - x) := by
  have h1 := bt_le s k
  have h2 := onn_le s k
  unfold wtt
  rw [onn]
  by_cases c : bt s k = 1
  · rw [if_pos c, c, show k + 1 - (onn s k + 1) = k - onn s k by omega, Nat.pow_succ, Nat.mul_assoc, Nat.mul_comm x, ← Nat.mul_assoc]
  · rw [if_neg c, show bt s k = 0 by omega, Nat.add_zero, show k + 1 - onn s k = (k - onn s k) + 1 by omega, Nat.pow_succ, Nat.mul_assoc]
theorem wtt_le {x s q : Nat} (hx : x ≤ 10) : wtt x s q ≤ 10 ^ q := by
  have h2 := onn_le s q
  unfold wtt
  have a1 : x ^ onn s q ≤ 10 ^ onn s q := Nat.pow_le_pow_left hx _
  have a2 : (10 - x) ^ (q - onn s q) ≤ 10 ^ (q - onn s q) := Nat.pow_le_pow_left (by omega) _
  have a3 := Nat.mul_le_mul a1 a2
  rw [← Nat.pow_add, show onn s q + (q - onn s q) = q by omega] at a3
  exact a3
theorem weight_lp {fu s q x : Nat} {Q : Int32 → Prop} (hs : s < 2 ^ 31) (hq : q ≤ 6) (hx : x ≤ 10) (h : Q (nI (wtt x s q))) : ∀ (j fuel k : Nat), k + j = q → j < fuel → wX9_weightOf_5 fu (nI s) (nI q) (nI x) Q fuel (nI (wtt x s k)) (nI k) := by
  intro j
  induction j with
  | zero =>
    intro fuel k hk hf
    obtain ⟨f, rfl⟩ : ∃ f, fuel = f + 1 := ⟨fuel - 1, by omega⟩
    obtain rfl : k = q := by omega
    unfold wX9_weightOf_5
    exact wifp (by rw [nI_leI (by omega) (by omega)]; omega) h
  | succ j ih =>
    intro fuel k hk hf
    obtain ⟨f, rfl⟩ : ∃ f, fuel = f + 1 := ⟨fuel - 1, by omega⟩
    have h1 := bt_le s k
    unfold wX9_weightOf_5 wX9_weightOf_30
    refine wifn (by rw [nI_leI (by omega) (by omega)]; omega) ?_
    rw [shr_and hs (by omega)]
    change if nI (bt s k) = (1 : Int32) then _ else _
    refine wif (fun g => ?_) (fun g => ?_) <;> rw [show (1 : Int32) = nI 1 from rfl, nI_eq (by omega) (by omega)] at g
    · intro y ey
      rw [nI_mul] at ey
      subst ey
      rw [show (1 : Int32) = nI 1 from rfl, nI_add]
      have e := wtt_succ (x := x) (s := s) (k := k)
      rw [if_pos g] at e
      rw [← e]
      exact ih f (k + 1) (by omega) (by omega)
    · intro y ey
      rw [show (10 : Int32) = nI 10 from rfl, nI_sub hx, nI_mul] at ey
      subst ey
      rw [show (1 : Int32) = nI 1 from rfl, nI_add]
      have e := wtt_succ (x := x) (s := s) (k := k)
      rw [if_neg g] at e
      rw [← e]
      exact ih f (k + 1) (by omega) (by omega)
theorem weight_ok {fu s q x : Nat} {Q : Int32 → Prop} (hfu : 400 ≤ fu) (hs : s < 2 ^ 31) (hq : q ≤ 6) (hx : x ≤ 10) (h : Q (nI (wtt x s q))) : wp_X9_weightOf fu (nI s) (nI q) (nI x) Q :=
  weight_lp hs hq hx h q fu 0 (by omega) (by omega)
def cns (L : Nat → Int32) (t b d p s : Nat) (idle : Int32) (q x : Nat) : Nat → Nat
  | 0 => 0
  | k + 1 => cns L t b d p s idle q x k + (if ftR (RD (FK L k q) t b d p s idle 1) then wtt x k q else 0)
theorem cns_le {L : Nat → Int32} {t b d p s : Nat} {idle : Int32} {q x : Nat} (hx : x ≤ 10) : ∀ k, cns L t b d p s idle q x k ≤ 10 ^ q * k := by
  intro k
  induction k with
  | zero => exact Nat.zero_le _
  | succ k ih =>
    have := wtt_le (x := x) (s := k) (q := q) hx
    rw [cns, Nat.mul_succ]
    split <;> omega
theorem ones_q : ∀ q, q < 7 → ∀ s, s < 2 ^ q → onn s 8 = onn s q := by decide +kernel
theorem flipsC_lp {fu t b d p s q S : Nat} {L sh : Nat → Int32} {idle : Int32} {wtk : Int32} {wlv : Nat → Int32} {Q : Int32 → Int32 → Int32 → Int32 → Int32 → (Nat → Int32) → Int32 → Int32 → (Nat → Int32) → (Nat → Int32) → (Nat → Int32) → Int32 → (Nat → Int32) → Prop} (hfu : 400 ≤ fu) (hb : Bt L t) (hg : GOK b d p s idle) (hq : q ≤ 6) (hS : S < 2 ^ 31) (hsh : SH L t q sh)
    (h1 : ftR (RD (FK L S q) t b d p s idle 1) → ∀ (z0 : Int32) (z1 : Int32) (z2 : Int32) (z3 : Int32) (z4 : (Nat → Int32)) (z5 : Int32) (z6 : Int32) (z7 : (Nat → Int32)) (z8 : (Nat → Int32)) (z9 : (Nat → Int32)) tt tl, Q 1 z0 z1 z2 z3 z4 z5 z6 z7 z8 z9 tt tl) (h0 : ¬ ftR (RD (FK L S q) t b d p s idle 1) → ∀ (z0 : Int32) (z1 : Int32) (z2 : Int32) (z3 : Int32) (z4 : (Nat → Int32)) (z5 : Int32) (z6 : Int32) (z7 : (Nat → Int32)) (z8 : (Nat → Int32)) (z9 : (Nat → Int32)) tt tl, Q 0 z0 z1 z2 z3 z4 z5 z6 z7 z8 z9 tt tl) :
    ∀ (j fuel k : Nat) (c0 : Int32) (c1 : Int32) (c2 : Int32) (c3 : Int32) (c4 : (Nat → Int32)) (c5 : Int32) (c6 : Int32) (c7 : (Nat → Int32)) (c8 : (Nat → Int32)) (c9 : (Nat → Int32)) (tl : Nat → Int32), k + j = q → j < fuel → CW tl (nI t) (FK L S k) t → wX9_fitsWithFlips_13 fu (nI b) (nI d) idle (nI p) (nI s) sh wtk wlv (nI S) (nI q) Q fuel (nI k) c0 c1 c2 c3 c4 c5 c6 c7 c8 c9 (nI t) tl := by
  intro j
  induction j with
  | zero =>
    intro fuel k c0 c1 c2 c3 c4 c5 c6 c7 c8 c9 tl hk hf hw
    obtain ⟨f, rfl⟩ : ∃ f, fuel = f + 1 := ⟨fuel - 1, by omega⟩
    obtain rfl : k = q := by omega
    unfold wX9_fitsWithFlips_13
    refine wifp (by rw [nI_leI (by omega) (by omega)]; omega) ?_
    unfold wX9_fitsWithFlips_52
    refine listenTo_ok hfu hw (fun fi la hr => ?_)
    exact rdfC_ok (Q := fun r z12 z13 z14 z15 z16 z17 => Q r z12 z13 z14 z15 z16 (nI (rc (FK L S k) t)) (nI t) fi la z17 (nI t) tl) hfu hw (FK_Bt hb) hr hg (fun e _ _ _ _ _ _ => h1 e _ _ _ _ _ _ _ _ _ _ _ _) (fun e _ _ _ _ _ _ => h0 e _ _ _ _ _ _ _ _ _ _ _ _)
  | succ j ih =>
    intro fuel k c0 c1 c2 c3 c4 c5 c6 c7 c8 c9 tl hk hf hw
    obtain ⟨f, rfl⟩ : ∃ f, fuel = f + 1 := ⟨fuel - 1, by omega⟩
    have hbl := bt_le S k
    have ht := hw.2.1
    unfold wX9_fitsWithFlips_13 wX9_fitsWithFlips_46
    refine wifn (by rw [nI_leI (by omega) (by omega)]; omega) (wifn (by rw [show (6 : Int32) = nI 6 from rfl, nI_leI (by omega) (by omega)]; omega) ?_)
    rw [shr_and hS (by omega)]
    change if nI (bt S k) = (1 : Int32) then _ else _
    refine wif (fun g => ?_) (fun g => ?_) <;> rw [show (1 : Int32) = nI 1 from rfl, nI_eq (by omega) (by omega)] at g
    · refine ⟨vin (by omega) (by omega), ?_⟩
      obtain ⟨e, e1, e2, e3, e4, e5⟩ := hsh k (by omega)
      rw [ix_nI (by omega), e1]
      refine turnOver_ok hw e3 (fun tl1 hw1 => ?_)
      rw [show (1 : Int32) = nI 1 from rfl, nI_add]
      exact ih f (k + 1) _ _ _ _ _ _ _ _ _ _ tl1 (by omega) (by omega) (CW_eq hw1 (fun i _ => FK_yes g e2 e4 e5))
    · rw [show (1 : Int32) = nI 1 from rfl, nI_add]
      exact ih f (k + 1) _ _ _ _ _ _ _ _ _ _ tl (by omega) (by omega) (CW_eq hw (fun i _ => FK_no g))
theorem flipsM_lp {fu t S : Nat} {now L : Nat → Int32} {Q : (Nat → Int32) → Prop} (hm : MW now L t) (hS : S < 2 ^ 31) (h : ∀ tr, MW tr (FK L S 6) t → Q tr) :
    ∀ (j fuel k : Nat) (tr : Nat → Int32), k + j = t → 1 ≤ k → j < fuel → tr 360 = nI t → (∀ i, i < k → tr i = FK L S 6 i) → (∀ i, k ≤ i → i < t → tr i = L i) → wX10_flipSome_15 fu now (nI S) Q fuel (nI (rc L k - 1)) (nI k) tr := by
  have ht := hm.2.1
  intro j
  induction j with
  | zero =>
    intro fuel k tr hk k1 hf h3 h4 h5
    obtain ⟨f, rfl⟩ : ∃ f, fuel = f + 1 := ⟨fuel - 1, by omega⟩
    obtain rfl : k = t := by omega
    unfold wX10_flipSome_15
    rw [show ix (360 : Int32) = 360 from rfl, hm.1]
    exact wifp (by rw [nI_leI (by omega) (by omega)]; omega) (h tr ⟨h3, ht, h4⟩)
  | succ j ih =>
    intro fuel k tr hk k1 hf h3 h4 h5
    obtain ⟨f, rfl⟩ : ∃ f, fuel = f + 1 := ⟨fuel - 1, by omega⟩
    have hp := rc_pos (L := L) (show 0 < k by omega)
    have hv : vp_in (nI k) 361 := vin (by omega) (by omega)
    have key : ∀ x2 : Int32, x2 = nI (rc L (k + 1) - 1) → ∀ tr1 : Nat → Int32, tr1 360 = nI t → (∀ i, i < k + 1 → tr1 i = FK L S 6 i) → (∀ i, k + 1 ≤ i → i < t → tr1 i = L i) → wX10_flipSome_85 fu now (nI S) Q (wX10_flipSome_15 fu now (nI S) Q f) x2 (nI k) tr1 := by
      intro x2 ex tr1 g3 g4 g5
      subst ex
      unfold wX10_flipSome_85
      rw [show (1 : Int32) = nI 1 from rfl, nI_add]
      exact ih f (k + 1) tr1 (by omega) (by omega) (by omega) g3 g4 g5
    unfold wX10_flipSome_15
    rw [show ix (360 : Int32) = 360 from rfl, hm.1]
    refine wifn (by rw [nI_leI (by omega) (by omega)]; omega) ⟨hv, ?_⟩
    rw [show nI k - (1 : Int32) = nI (k - 1) from by rw [show (1 : Int32) = nI 1 from rfl, nI_sub (by omega)]]
    refine ⟨vin (by omega) (by omega), ?_⟩
    rw [ix_nI (by omega), ix_nI (by omega), hm.2.2 k (by omega), hm.2.2 (k - 1) (by omega)]
    refine wif (fun c => ?_) (fun c => ?_)
    · have e : rc L (k + 1) = rc L k := by rw [rc, if_neg (by intro hh; rcases hh with hh | hh; omega; exact hh c)]; rfl
      refine key _ (by rw [e]) tr h3 (fun i hi => ?_) (fun i h6 h7 => h5 i (by omega) h7)
      by_cases e2 : i = k
      · rw [e2, h5 k (by omega) (by omega), FK, if_neg (fun q => q.2.1 c)]
      · exact h4 i (by omega)
    · have e := rc_edge c
      have ex : nI (rc L k - 1) + (1 : Int32) = nI (rc L (k + 1) - 1) := by
        rw [show (1 : Int32) = nI 1 from rfl, nI_add, show rc L k - 1 + 1 = rc L (k + 1) - 1 by omega]
      have key2 : ∀ z : Int32, z = FK L S 6 k → wX10_flipSome_81 fu now (nI S) Q (wX10_flipSome_15 fu now (nI S) Q f) (nI (rc L k - 1)) (nI k) (nI k) z tr := by
        intro z ez
        unfold wX10_flipSome_81
        refine ⟨hv, ?_⟩
        rw [ix_nI (by omega)]
        refine key _ ex _ (by rw [upd_n (by omega)]; exact h3) (fun i hi => ?_) (fun i h6 h7 => ?_)
        · rw [upd_ite]
          by_cases e2 : i = k
          · rw [if_pos e2, e2, ez]
          · rw [if_neg e2]; exact h4 i (by omega)
        · rw [upd_n (by omega)]; exact h5 i (by omega) h7
      have hrl : rc L k ≤ k := rc_le L k
      have no75 : FK L S 6 k = L k → wX10_flipSome_75 fu now (nI S) Q (wX10_flipSome_15 fu now (nI S) Q f) (nI (rc L k - 1)) (nI k) (nI k) tr := by
        intro ee
        unfold wX10_flipSome_75
        refine ⟨hv, key2 _ ?_⟩
        rw [ix_nI (by omega), hm.2.2 k (by omega), ee]
      refine wif (fun g => ?_) (fun g => ?_) <;> rw [show (6 : Int32) = nI 6 from rfl, nI_leI (by omega) (by omega)] at g
      · exact no75 (by rw [FK, if_neg (fun q => by omega)])
      · rw [shr_and hS (by omega)]
        change if nI (bt S (rc L k - 1)) = (1 : Int32) then _ else _
        have hbl := bt_le S (rc L k - 1)
        refine wif (fun g1 => ?_) (fun g1 => ?_) <;> rw [show (1 : Int32) = nI 1 from rfl, nI_eq (by omega) (by omega)] at g1
        · exact ⟨hv, key2 _ (by rw [FK, if_pos ⟨by omega, c, by omega, g1⟩])⟩
        · exact no75 (by rw [FK, if_neg (fun q => g1 q.2.2.2)])
theorem flipsM_ok {fu t S : Nat} {now L tr0 : Nat → Int32} {Q : (Nat → Int32) → Prop} (hfu : 400 ≤ fu) (hm : MW now L t) (hS : S < 2 ^ 31) (h : ∀ tr, MW tr (FK L S 6) t → Q tr) : wp_X10_flipSome fu now (nI S) tr0 Q := by
  have ht := hm.2.1
  unfold wp_X10_flipSome
  refine copyM_ok hfu (fun tr htr => ?_)
  have hm1 : MW tr L t := MW_eq hm htr
  have e1 : rc L 1 - 1 = 0 := by rw [rc, rc, if_pos (Or.inl rfl)]
  by_cases c : t = 0
  · subst c
    obtain ⟨f, rfl⟩ : ∃ f, fu = f + 1 := ⟨fu - 1, by omega⟩
    unfold wX10_flipSome_15
    rw [show ix (360 : Int32) = 360 from rfl, hm.1]
    exact wifp (by decide) (h tr ⟨hm1.1, by omega, fun i hi => by omega⟩)
  · have g := flipsM_lp (fu := fu) hm hS h (t - 1) fu 1 tr (by omega) (by omega) (by omega) hm1.1 (fun i hi => ?_) (fun i h1 h2 => hm1.2.2 i h2)
    · rw [e1] at g
      exact g
    · obtain rfl : i = 0 := by omega
      rw [hm1.2.2 0 (by omega), FK, if_neg (fun q => by omega)]
theorem RD_ext {L L' : Nat → Int32} {t b d p s : Nat} {idle : Int32} (e : ∀ i, L' i = L i) : RD L' t b d p s idle 1 = RD L t b d p s idle 1 := by
  have : L' = L := funext e
  rw [this]
theorem chanceC_lp {fu t b d p s q x : Nat} {lev L sh : Nat → Int32} {idle x1 x2 x4 : Int32} {Q : Int32 → Int32 → Int32 → Int32 → Int32 → Int32 → Int32 → Int32 → Int32 → Int32 → (Nat → Int32) → Int32 → Int32 → (Nat → Int32) → (Nat → Int32) → (Nat → Int32) → (Nat → Int32) → Int32 → (Nat → Int32) → Prop} (hfu : 1000 ≤ fu) (hw : CW lev (nI t) L t) (hb : Bt L t) (hg : GOK b d p s idle) (hq : q ≤ 6) (hx : x ≤ 10) (hsh : SH L t q sh)
    (h : ∀ (z0 : Int32) (z1 : Int32) (z2 : Int32) (z3 : Int32) (z4 : (Nat → Int32)) (z5 : Int32) (z6 : Int32) (z7 : (Nat → Int32)) (z8 : (Nat → Int32)) (z9 : (Nat → Int32)) tt tl, Q (lst (cns L t b d p s idle q x (2 ^ q)) (10 ^ q) x4) (nI b) (nI d) idle (nI p) (nI s) z0 z1 z2 z3 z4 z5 z6 z7 z8 z9 sh tt tl) :
    ∀ (j fuel S : Nat) (c0 : Int32) (c1 : Int32) (c2 : Int32) (c3 : Int32) (c4 : (Nat → Int32)) (c5 : Int32) (c6 : Int32) (c7 : (Nat → Int32)) (c8 : (Nat → Int32)) (c9 : (Nat → Int32)) (tt : Int32) (tl : Nat → Int32), S + j = 2 ^ q → j < fuel → wX9_chance_73 fu (nI t) lev x1 x2 (nI x) x4 Q fuel (nI q) (nI (10 ^ q)) (nI (cns L t b d p s idle q x S)) (nI S) (nI b) (nI d) idle (nI p) (nI s) c0 c1 c2 c3 c4 c5 c6 c7 c8 c9 sh tt tl := by
  have h64 : 2 ^ q ≤ 2 ^ 6 := Nat.pow_le_pow_right (by omega) hq
  have h10 : 10 ^ q ≤ 10 ^ 6 := Nat.pow_le_pow_right (by omega) hq
  have hp10 : 0 < 10 ^ q := Nat.pow_pos (by omega)
  intro j
  induction j with
  | zero =>
    intro fuel S c0 c1 c2 c3 c4 c5 c6 c7 c8 c9 tt tl hk hf
    obtain ⟨f, rfl⟩ : ∃ f, fuel = f + 1 := ⟨fuel - 1, by omega⟩
    obtain rfl : S = 2 ^ q := by omega
    unfold wX9_chance_73
    rw [shl1 (by omega)]
    refine wifp (by rw [nI_leI (by omega) (by omega)]; omega) ?_
    have hc := cns_le (L := L) (t := t) (b := b) (d := d) (p := p) (s := s) (idle := idle) (q := q) hx (2 ^ q)
    have hc2 : 10 ^ q * 2 ^ q ≤ 10 ^ 6 * 2 ^ 6 := Nat.mul_le_mul h10 h64
    exact inLeastTerms_ok (by omega) (by omega) hp10 (by omega) (h _ _ _ _ _ _ _ _ _ _ _ _)
  | succ j ih =>
    intro fuel S c0 c1 c2 c3 c4 c5 c6 c7 c8 c9 tt tl hk hf
    obtain ⟨f, rfl⟩ : ∃ f, fuel = f + 1 := ⟨fuel - 1, by omega⟩
    unfold wX9_chance_73
    rw [shl1 (by omega)]
    refine wifn (by rw [nI_leI (by omega) (by omega)]; omega) ?_
    unfold wp_X9_fitsWithFlips
    refine copy_ok hw (fun tl1 hw1 => ?_)
    have hw2 : CW tl1 (nI t) (FK L S 0) t := CW_eq hw1 (fun i _ => FK_zero)
    refine flipsC_lp (by omega) hb hg hq (by omega) hsh (fun e z0 z1 z2 z3 z4 z5 z6 z7 z8 z9 tt2 tl2 => wifn (by decide) ?_) (fun e z0 z1 z2 z3 z4 z5 z6 z7 z8 z9 tt2 tl2 => wifp rfl ?_) q fu 0 _ _ _ _ _ _ _ _ _ _ tl1 (by omega) (by omega) hw2
    · refine weight_ok (by omega) (by omega) hq hx ?_
      intro y ey
      rw [nI_add] at ey
      subst ey
      unfold wX9_chance_106
      have ec : cns L t b d p s idle q x (S + 1) = cns L t b d p s idle q x S + wtt x S q := by rw [cns, if_pos e]
      rw [← ec, show (1 : Int32) = nI 1 from rfl, nI_add]
      exact ih f (S + 1) _ _ _ _ _ _ _ _ _ _ _ _ (by omega) (by omega)
    · unfold wX9_chance_106
      have ec : cns L t b d p s idle q x (S + 1) = cns L t b d p s idle q x S := by rw [cns, if_neg e]; rfl
      rw [← ec, show (1 : Int32) = nI 1 from rfl, nI_add]
      exact ih f (S + 1) _ _ _ _ _ _ _ _ _ _ _ _ (by omega) (by omega)
theorem chanceP_lp {fu q : Nat} {wtk : Int32} {lev sh : Nat → Int32} {x1 x2 x3 x4 a1 a2 a3 a4 a5 : Int32} {Q : Int32 → Int32 → Int32 → Int32 → Int32 → Int32 → Int32 → Int32 → Int32 → Int32 → (Nat → Int32) → Int32 → Int32 → (Nat → Int32) → (Nat → Int32) → (Nat → Int32) → (Nat → Int32) → Int32 → (Nat → Int32) → Prop} {c0 : Int32} {c1 : Int32} {c2 : Int32} {c3 : Int32} {c4 : (Nat → Int32)} {c5 : Int32} {c6 : Int32} {c7 : (Nat → Int32)} {c8 : (Nat → Int32)} {c9 : (Nat → Int32)} {tt : Int32} {tl : Nat → Int32} (hq : q ≤ 6) (h : wX9_chance_73 fu wtk lev x1 x2 x3 x4 Q fu (nI q) (nI (10 ^ q)) 0 0 a1 a2 a3 a4 a5 c0 c1 c2 c3 c4 c5 c6 c7 c8 c9 sh tt tl) :
    ∀ (j fuel k : Nat), k + j = q → j < fuel → wX9_chance_47 fu wtk lev x1 x2 x3 x4 Q fuel (nI q) (nI (10 ^ k)) (nI k) a1 a2 a3 a4 a5 c0 c1 c2 c3 c4 c5 c6 c7 c8 c9 sh tt tl := by
  intro j
  induction j with
  | zero =>
    intro fuel k hk hf
    obtain ⟨f, rfl⟩ : ∃ f, fuel = f + 1 := ⟨fuel - 1, by omega⟩
    obtain rfl : k = q := by omega
    unfold wX9_chance_47
    exact wifp (by rw [nI_leI (by omega) (by omega)]; omega) h
  | succ j ih =>
    intro fuel k hk hf
    obtain ⟨f, rfl⟩ : ∃ f, fuel = f + 1 := ⟨fuel - 1, by omega⟩
    unfold wX9_chance_47
    refine wifn (by rw [nI_leI (by omega) (by omega)]; omega) (fun y ey => ?_)
    rw [show (10 : Int32) = nI 10 from rfl, nI_mul, ← Nat.pow_succ] at ey
    subst ey
    rw [show (1 : Int32) = nI 1 from rfl, nI_add]
    exact ih f (k + 1) (by omega) (by omega)
theorem chanceM_lp {fu t b d p s q x : Nat} {now L de : Nat → Int32} {idle x1 x2 x4 : Int32} {Q : Int32 → Int32 → Int32 → Int32 → Int32 → Int32 → Int32 → Int32 → Int32 → Int32 → (Nat → Int32) → (Nat → Int32) → (Nat → Int32) → Prop} (hfu : 1000 ≤ fu) (hm : MW now L t) (hg : GOK b d p s idle) (hq : q ≤ 6) (hx : x ≤ 10)
    (h : ∀ (w1 w2 w3 w4 w5 w6 w7 w8 w9 : Int32) (w10 w11 w12 : Nat → Int32), Q (lst (cns L t b d p s idle q x (2 ^ q)) (10 ^ q) x4) w1 w2 w3 w4 w5 w6 w7 w8 w9 w10 w11 w12) :
    ∀ (j fuel S : Nat) (f1 f2 f3 f4 : Int32) (le st tr : Nat → Int32), S + j = 2 ^ q → j < fuel → wX10_chance_65 fu de now x1 x2 (nI x) x4 Q fuel (nI q) (nI (cns L t b d p s idle q x S)) (nI S) (nI d) f1 f2 f3 idle f4 (nI p) (nI s) (nI b) le st tr := by
  have h64 : 2 ^ q ≤ 2 ^ 6 := Nat.pow_le_pow_right (by omega) hq
  have h10 : 10 ^ q ≤ 10 ^ 6 := Nat.pow_le_pow_right (by omega) hq
  have hp10 : 0 < 10 ^ q := Nat.pow_pos (by omega)
  intro j
  induction j with
  | zero =>
    intro fuel S f1 f2 f3 f4 le st tr hk hf
    obtain ⟨f, rfl⟩ : ∃ f, fuel = f + 1 := ⟨fuel - 1, by omega⟩
    obtain rfl : S = 2 ^ q := by omega
    unfold wX10_chance_65
    rw [shl1 (by omega)]
    refine wifp (by rw [nI_leI (by omega) (by omega)]; omega) ?_
    have hc := cns_le (L := L) (t := t) (b := b) (d := d) (p := p) (s := s) (idle := idle) (q := q) hx (2 ^ q)
    have hc2 : 10 ^ q * 2 ^ q ≤ 10 ^ 6 * 2 ^ 6 := Nat.mul_le_mul h10 h64
    exact power_ok (a := 10) (by omega) (by omega) (fraction_ok (by omega) (by omega) hp10 (by omega) (h _ _ _ _ _ _ _ _ _ _ _ _))
  | succ j ih =>
    intro fuel S f1 f2 f3 f4 le st tr hk hf
    obtain ⟨f, rfl⟩ : ∃ f, fuel = f + 1 := ⟨fuel - 1, by omega⟩
    unfold wX10_chance_65
    rw [shl1 (by omega)]
    refine wifn (by rw [nI_leI (by omega) (by omega)]; omega) ?_
    refine flipsM_ok (by omega) hm (by omega) (fun tr1 hm1 => ?_)
    have e6 := RD_ext (t := t) (b := b) (d := d) (p := p) (s := s) (idle := idle) (fun i => FK_six (L := L) (i := i) (show S < 2 ^ q by omega) hq)
    have h8 := ones_q q (by omega) S (by omega)
    have hol := onn_le S q
    refine rdfM_ok (Q := fun r25 z19 z20 z21 z22 z23 z24 => if r25 = 0 then wX10_chance_126 fu de now x1 x2 (nI x) x4 Q (wX10_chance_65 fu de now x1 x2 (nI x) x4 Q f) (nI q) (nI S) (nI (cns L t b d p s idle q x S)) (0 : Int32) (nI d) z19 z20 z21 idle z22 (nI p) (nI s) (nI b) z23 z24 tr1 else wp_X10_ones fu (nI S) (fun r27 => wp_X10_power fu (nI x) r27 (fun r28 => wp_X10_ones fu (nI S) (fun r29 => wp_X10_power fu ((10 : Int32) - nI x) (nI q - r29) (fun r30 => wX10_chance_126 fu de now x1 x2 (nI x) x4 Q (wX10_chance_65 fu de now x1 x2 (nI x) x4 Q f) (nI q) (nI S) (nI (cns L t b d p s idle q x S)) (r28 * r30) (nI d) z19 z20 z21 idle z22 (nI p) (nI s) (nI b) z23 z24 tr1))))) (by omega) hm1 hg (fun e z1 z2 z3 z4 le1 st1 => wifn (by decide) ?_) (fun e z1 z2 z3 z4 le1 st1 => wifp rfl ?_)
    · rw [e6] at e
      refine ones_ok (by omega) (by omega) ?_
      rw [h8]
      refine power_ok (by omega) (by omega) (ones_ok (by omega) (by omega) ?_)
      rw [h8, show (10 : Int32) = nI 10 from rfl, nI_sub hx, nI_sub hol]
      refine power_ok (by omega) (by omega) ?_
      unfold wX10_chance_126
      intro y ey
      rw [nI_mul, nI_add] at ey
      have ec : cns L t b d p s idle q x (S + 1) = cns L t b d p s idle q x S + wtt x S q := by rw [cns, if_pos e]
      unfold wtt at ec
      rw [← ec] at ey
      subst ey
      rw [show (1 : Int32) = nI 1 from rfl, nI_add]
      exact ih f (S + 1) _ _ _ _ _ _ _ (by omega) (by omega)
    · rw [e6] at e
      unfold wX10_chance_126
      intro y ey
      have ec : cns L t b d p s idle q x (S + 1) = cns L t b d p s idle q x S := by rw [cns, if_neg e]; rfl
      rw [show (0 : Int32) = nI 0 from rfl, nI_add, Nat.add_zero, ← ec] at ey
      subst ey
      rw [show (1 : Int32) = nI 1 from rfl, nI_add]
      exact ih f (S + 1) _ _ _ _ _ _ _ (by omega) (by omega)
theorem chance_both {fu : Nat} {v_wire_ticks : Int32} {v_wire_levels : (Nat → Int32)} {x1 : Int32} {x2 : Int32} {x3 : Int32} {x4 : Int32} {v_asked_bit : Int32} {v_asked_data : Int32} {v_asked_idle : Int32} {v_asked_parity : Int32} {v_asked_stops : Int32} {v_reader_failedStart : Int32} {v_reader_failure : Int32} {v_reader_frames : Int32} {v_reader_margin : Int32} {v_reader_letters : (Nat → Int32)} {v_reader_runs_runs : Int32} {v_reader_runs_ticks : Int32} {v_reader_runs_first : (Nat → Int32)} {v_reader_runs_last : (Nat → Int32)} {v_reader_starts : (Nat → Int32)} {v_shakyTicks : (Nat → Int32)} {v_trial_ticks : Int32} {v_trial_levels : (Nat → Int32)} {v_deep : (Nat → Int32)} {v_now : (Nat → Int32)} {v_bits : Int32} {v_failed : Int32} {v_failedAt : Int32} {v_frames : Int32} {v_idle : Int32} {v_margin : Int32} {v_parity : Int32} {v_stops : Int32} {v_wide : Int32} {v_letters : (Nat → Int32)} {v_starts : (Nat → Int32)} {v_trial : (Nat → Int32)} {Qc : Int32 → Int32 → Int32 → Int32 → Int32 → Int32 → Int32 → Int32 → Int32 → Int32 → (Nat → Int32) → Int32 → Int32 → (Nat → Int32) → (Nat → Int32) → (Nat → Int32) → (Nat → Int32) → Int32 → (Nat → Int32) → Prop} (hfu : 1000 ≤ fu) (hW : WI v_wire_ticks v_wire_levels v_now)
    (h : ∀ (r : Int32) (z1 : Int32) (z2 : Int32) (z3 : Int32) (z4 : Int32) (z5 : Int32) (z6 : Int32) (z7 : Int32) (z8 : Int32) (z9 : Int32) (z10 : (Nat → Int32)) (z11 : Int32) (z12 : Int32) (z13 : (Nat → Int32)) (z14 : (Nat → Int32)) (z15 : (Nat → Int32)) (z16 : (Nat → Int32)) (z17 : Int32) (z18 : (Nat → Int32)), (∀ K : Int32 → Int32 → Int32 → Int32 → Int32 → Int32 → Int32 → Int32 → Int32 → Int32 → (Nat → Int32) → (Nat → Int32) → (Nat → Int32) → Prop, (∀ (w1 : Int32) (w2 : Int32) (w3 : Int32) (w4 : Int32) (w5 : Int32) (w6 : Int32) (w7 : Int32) (w8 : Int32) (w9 : Int32) (w10 : (Nat → Int32)) (w11 : (Nat → Int32)) (w12 : (Nat → Int32)), K r w1 w2 w3 w4 w5 w6 w7 w8 w9 w10 w11 w12) → wp_X10_chance fu v_deep v_now x1 x2 x3 x4 v_bits v_failed v_failedAt v_frames v_idle v_margin v_parity v_stops v_wide v_letters v_starts v_trial K) → Qc r z1 z2 z3 z4 z5 z6 z7 z8 z9 z10 z11 z12 z13 z14 z15 z16 z17 z18) : wp_X9_chance fu v_wire_ticks v_wire_levels x1 x2 x3 x4 v_asked_bit v_asked_data v_asked_idle v_asked_parity v_asked_stops v_reader_failedStart v_reader_failure v_reader_frames v_reader_margin v_reader_letters v_reader_runs_runs v_reader_runs_ticks v_reader_runs_first v_reader_runs_last v_reader_starts v_shakyTicks v_trial_ticks v_trial_levels Qc := by
  obtain ⟨L, t, hw, hm, hb⟩ := hW
  obtain rfl := hw.1
  have ht := hw.2.1
  have hrc := rc_le L t
  unfold wp_X9_chance
  refine isToldBy_ok (fun c hcl ec hck => wifn (by decide) ?_) (fun hn => wifp rfl ?_)
  · have hg := CK_gok hck
    subst ec
    have bad : ¬ (RG 0 6 x2 ∧ RG 0 10 x3) → ∀ a0 a1 a2 a3 a4 a5 a6 a7 a8 a9 a10 a11 a12 a13 a14 a15 a16 a17, Qc (-2) a0 a1 a2 a3 a4 a5 a6 a7 a8 a9 a10 a11 a12 a13 a14 a15 a16 a17 := by
      intro hno a0 a1 a2 a3 a4 a5 a6 a7 a8 a9 a10 a11 a12 a13 a14 a15 a16 a17
      apply h
      intro K hK
      unfold wp_X10_chance
      refine layCode_ok (fun c' hcl' ec' hck' => wifn (by decide) ?_) (fun hn => absurd ⟨c, hcl, rfl, hck⟩ hn)
      refine inr_ok (lo := 0) (hi := 6) (by omega) rfl rfl (fun g1 => wifn (by decide) ?_) (fun _ => wifp rfl ?_)
      · refine inr_ok (lo := 0) (hi := 10) (by omega) rfl rfl (fun g2 => absurd ⟨g1, g2⟩ hno) (fun _ => wifp rfl ?_)
        apply hK
      · apply hK
    by_cases g1 : RG 0 6 x2
    · obtain ⟨n, -, n2, e⟩ := id g1
      subst e
      refine wifn (nI_pos (by omega)) (wifn (by rw [show (6 : Int32) = nI 6 from rfl, nI_ltI (by omega) (by omega)]; omega) ?_)
      by_cases g2 : RG 0 10 x3
      · obtain ⟨x, -, hx, e⟩ := id g2
        subst e
        refine wifn (nI_pos (by omega)) (wifp (by rw [show (10 : Int32) = nI 10 from rfl, nI_leI (by omega) (by omega)]; omega) ?_)
        refine shaky_ok (by omega) hw n2 (fun sh hsh => ?_)
        have hq : mn n (rc L t - 1) ≤ 6 := by unfold mn; split <;> omega
        have h64 : 2 ^ mn n (rc L t - 1) ≤ 2 ^ 6 := Nat.pow_le_pow_right (by omega) hq
        refine chanceP_lp hq ?_ (mn n (rc L t - 1)) fu 0 (by omega) (by omega)
        refine chanceC_lp hfu hw hb hg hq hx hsh (fun z0 z1 z2 z3 z4 z5 z6 z7 z8 z9 tt tl => ?_) (2 ^ mn n (rc L t - 1)) fu 0 _ _ _ _ _ _ _ _ _ _ _ _ (by omega) (by omega)
        apply h
        intro K hK
        unfold wp_X10_chance
        refine layCode_ok (fun c' hcl' ec' hck' => wifn (by decide) ?_) (fun hn => absurd ⟨c, hcl, rfl, hck⟩ hn)
        obtain rfl : c = c' := nI_inj hcl hcl' ec'
        refine inr_ok (lo := 0) (hi := 6) (by omega) rfl rfl (fun _ => wifn (by decide) ?_) (fun g => absurd g1 g)
        refine inr_ok (lo := 0) (hi := 10) (by omega) rfl rfl (fun _ => wifn (by decide) ?_) (fun g => absurd g2 g)
        have fin : ∀ k0 : Int32, k0 = nI (mn n (rc L t - 1)) → wX10_chance_57 fu v_deep v_now (nI c) (nI n) (nI x) x4 K k0 (nI (c / 1000 % 10)) v_failed v_failedAt v_frames (nI (1 - c % 10)) v_margin (nI (c / 100 % 10)) (nI (c / 10 % 10)) (nI (c / 10000)) v_letters v_starts v_trial := by
          intro k0 ek
          subst ek
          unfold wX10_chance_57
          exact chanceM_lp hfu hm hg hq hx (fun _ _ _ _ _ _ _ _ _ _ _ _ => hK _ _ _ _ _ _ _ _ _ _ _ _) (2 ^ mn n (rc L t - 1)) fu 0 _ _ _ _ _ _ _ (by omega) (by omega)
        refine edgesM_ok (by omega) hm ?_
        refine wif (fun g => ?_) (fun g => ?_) <;> rw [nI_leI (by omega) (by omega)] at g
        · exact fin _ (by unfold mn; rw [if_pos g])
        · exact edgesM_ok (by omega) hm (fin _ (by unfold mn; rw [if_neg g]))
      · have b := bad (fun g => g2 g.2)
        refine wif (fun _ => ?_) (fun c => wifn (fun c2 => ?_) ?_)
        · apply b
        · exact nlt_le.mpr c2 (rg_lo (lo := 0) (hi := 10) (by omega) (by omega) g2 c)
        · apply b
    · have b := bad (fun g => g1 g.1)
      refine wif (fun _ => ?_) (fun c => wifp ?_ ?_)
      · apply b
      · exact rg_lo (lo := 0) (hi := 6) (by omega) (by omega) g1 c
      · apply b
  · apply h
    intro K hK
    unfold wp_X10_chance
    refine layCode_ok (fun c' hcl' ec' hck' => absurd ⟨c', hcl', ec', hck'⟩ hn) (fun _ z1 z2 z3 z4 z5 => wifp rfl ?_)
    apply hK
