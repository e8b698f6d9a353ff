/-! bits of long words -/
theorem lus_tb : ∀ r, r < 64 → ((nI r).toInt64.toUInt64 &&& Int64.toUInt64 63).toBitVec = BitVec.ofNat 64 r := by decide
theorem lsl_tb : ∀ r, r < 64 → ((nI r).toInt64 &&& 63).toBitVec.smod 64 = BitVec.ofNat 64 r := by decide
theorem lus_bit {w : Int64} {r : Nat} (h : r < 64) : (lus w (nI r)).toBitVec.getLsbD 0 = w.toBitVec.getLsbD r := by
  unfold lus
  rw [Int64.toBitVec, UInt64.toUInt64_toInt64, UInt64.toBitVec_shiftRight, lus_tb r h]
  have e : (BitVec.ofNat 64 r % 64#64).toNat = r := by
    rw [BitVec.toNat_umod, BitVec.toNat_ofNat, BitVec.toNat_ofNat, Nat.mod_eq_of_lt (show r < 2 ^ 64 by omega), show 64 % 2 ^ 64 = 64 from rfl]; omega
  change (w.toBitVec >>> (BitVec.ofNat 64 r % 64#64).toNat).getLsbD 0 = _
  rw [e, BitVec.getLsbD_ushiftRight]
  rfl
theorem lsl_val {r : Nat} (h : r < 64) : (lsl 1 (nI r)).toBitVec = 1#64 <<< r := by
  unfold lsl
  rw [Int64.toBitVec_shiftLeft, lsl_tb r h]
  have e : (BitVec.ofNat 64 r).toNat = r := by
    rw [BitVec.toNat_ofNat]; omega
  change 1#64 <<< (BitVec.ofNat 64 r).toNat = _
  rw [e]
def gbw (w : Int64) (r : Nat) : Int32 := Int64.toInt32 ((lus w (nI r)) &&& 1)
theorem gbw_eq {w : Int64} {r : Nat} (h : r < 64) : gbw w r = if w.toBitVec.getLsbD r = true then 1 else 0 := by
  unfold gbw
  rw [← lus_bit h]
  generalize lus w (nI r) = z
  have e : z &&& 1 = if z.toBitVec.getLsbD 0 = true then 1 else 0 := by
    apply Int64.toBitVec_inj.mp
    rw [Int64.toBitVec_and, Int64.toBitVec_one, BitVec.and_one_eq_setWidth_ofBool_getLsbD]
    by_cases c : z.toBitVec.getLsbD 0 = true
    · rw [if_pos c, c]; rfl
    · rw [if_neg c, Bool.eq_false_iff.mpr c]; rfl
  rw [e]
  by_cases c : z.toBitVec.getLsbD 0 = true
  · rw [if_pos c, if_pos c]; rfl
  · rw [if_neg c, if_neg c]; rfl
theorem gbw_or {w : Int64} {q r : Nat} (h : r < 64) (hq : q < 64) : gbw (w ||| lsl 1 (nI q)) r = if r = q then 1 else gbw w r := by
  rw [gbw_eq h, gbw_eq h, Int64.toBitVec_or, lsl_val hq, BitVec.getLsbD_or, BitVec.getLsbD_shiftLeft, BitVec.getLsbD_one]
  by_cases c : r = q
  · subst c
    rw [if_pos rfl, if_pos]
    simp [h]
  · rw [if_neg c]
    have e : (decide (r < 64) && !decide (r < q) && (decide (0 < 64) && decide (r - q = 0))) = false := by
      by_cases c2 : r < q
      · simp [c2]
      · have : ¬ (r - q = 0) := by omega
        simp [this]
    rw [e, Bool.or_false]
theorem gbw_zero {r : Nat} (h : r < 64) : gbw 0 r = 0 := by
  rw [gbw_eq h, if_neg]
  rw [Int64.toBitVec_zero]
  simp

/-! what an act's entry tells: how the wire (L, t) came of (L', t') -/
def gbt (g : Nat → Int64) (i : Nat) : Int32 := gbw (g (i / 64)) (i % 64)
def UR (kd amt : Int32) (g : Nat → Int64) (L : Nat → Int32) (t : Nat) (L' : Nat → Int32) (t' : Nat) : Prop :=
  (kd = 0 ∧ ∃ n, n ≤ 360 ∧ amt = nI n ∧ t = t' + n ∧ ∀ i, i < t' → L i = L' i) ∨
  (kd = 1 ∧ ∃ j, j < t ∧ amt = nI j ∧ t' = t ∧ ∀ i, i < t → L' i = fl L j i) ∨
  (kd = 2 ∧ ∃ n, n ≤ 360 ∧ amt = nI n ∧ t' = t + n ∧ (∀ i, i < t → L' i = L i) ∧ ∀ i, i < n → L' (t + i) = gbt g i)
def CH (fN a x : Nat) (S : Nat → Nat → Int32) (T : Nat → Nat) (am ki : Nat → Int32) (go : Nat → Int64) (di : Nat → Int32) : Prop :=
  fN < 14 ∧ a ≤ 14 ∧ x < 14 ∧ (∀ i, i ≤ a → Bt (S i) (T i)) ∧ ∀ i, i < a → MW (fun k => di (361 * ((x + 13 - i) % 14) + k)) (S (i + 1)) (T (i + 1)) ∧ UR (ki ((fN + a + 13 - i) % 14)) (am ((fN + a + 13 - i) % 14)) (fun j => go (6 * ((fN + a + 13 - i) % 14) + j)) (S i) (T i) (S (i + 1)) (T (i + 1))
def pre {α : Type} (x : α) (S : Nat → α) : Nat → α
  | 0 => x
  | i + 1 => S i
theorem UR_g {kd amt : Int32} {g g' : Nat → Int64} {L L' : Nat → Int32} {t t' : Nat} (h : UR kd amt g L t L' t') (e : ∀ j, j < 6 → g' j = g j) : UR kd amt g' L t L' t' := by
  rcases h with h | h | ⟨h1, n, h2, h3, h4, h5, h6⟩
  · exact Or.inl h
  · exact Or.inr (Or.inl h)
  · refine Or.inr (Or.inr ⟨h1, n, h2, h3, h4, h5, fun i hi => ?_⟩)
    rw [h6 i hi]
    simp only [gbt]
    rw [e _ (by omega)]
theorem CH_push {fN a x : Nat} {S : Nat → Nat → Int32} {T : Nat → Nat} {am ki di di' now L' : Nat → Int32} {go go' : Nat → Int64} {kd amt : Int32} {t' : Nat} (h : CH fN a x S T am ki go di) (hm : MW now (S 0) (T 0)) (hl : Laid di' di now (361 * x)) (hb : Bt L' t') (hu : UR kd amt (fun j => go' (6 * ((fN + a) % 14) + j)) L' t' (S 0) (T 0)) (hg : ∀ q, (q < 6 * ((fN + a) % 14) ∨ 6 * ((fN + a) % 14) + 6 ≤ q) → go' q = go q) :
    CH (if a = 14 then (fN + 1) % 14 else fN) (if a < 14 then a + 1 else 14) ((x + 1) % 14) (pre L' S) (pre t' T) (upd am ((fN + a) % 14) amt) (upd ki ((fN + a) % 14) kd) go' di' := by
  obtain ⟨h1, h2, h3, h4, h5⟩ := h
  have ea : (if a < 14 then a + 1 else 14) ≤ 14 ∧ (if a < 14 then a + 1 else 14) ≤ a + 1 := by
    by_cases c : a < 14
    · rw [if_pos c]; omega
    · rw [if_neg c]; omega
  have ef : (if a = 14 then (fN + 1) % 14 else fN) < 14 := by
    by_cases c : a = 14
    · rw [if_pos c]; omega
    · rw [if_neg c]; omega
  have ec : ∀ i, i < (if a < 14 then a + 1 else 14) → ((if a = 14 then (fN + 1) % 14 else fN) + (if a < 14 then a + 1 else 14) + 13 - i) % 14 = (fN + a + 14 - i) % 14 := by
    intro i hi
    by_cases c : a = 14
    · rw [if_pos c, if_neg (by omega)]; rw [if_neg (by omega)] at hi; omega
    · rw [if_neg c, if_pos (by omega)]; rw [if_pos (by omega)] at hi; omega
  refine ⟨ef, ea.1, by omega, ?_, ?_⟩
  · intro i hi
    cases i with
    | zero => exact hb
    | succ i => exact h4 i (by omega)
  · intro i hi
    rw [ec i hi]
    cases i with
    | zero =>
      have e1 : (fN + a + 14 - 0) % 14 = (fN + a) % 14 := by omega
      have e2 : ((x + 1) % 14 + 13 - 0) % 14 = x := by omega
      rw [e1, e2, upd_s, upd_s]
      exact ⟨MW_eq hm (fun k hk => hl.1 k hk), hu⟩
    | succ i =>
      have hi2 : i < a ∧ i < 13 := by omega
      have e1 : (fN + a + 14 - (i + 1)) % 14 = (fN + a + 13 - i) % 14 := by omega
      have e2 : ((x + 1) % 14 + 13 - (i + 1)) % 14 = (x + 13 - i) % 14 := by omega
      have e3 : (fN + a + 13 - i) % 14 ≠ (fN + a) % 14 := by omega
      have e4 : (x + 13 - i) % 14 ≠ x := by omega
      rw [e1, e2, upd_n e3, upd_n e3]
      obtain ⟨g1, g2⟩ := h5 i hi2.1
      refine ⟨MW_eq g1 (fun k hk => hl.2 _ ?_), UR_g g2 (fun j hj => hg _ ?_)⟩
      · omega
      · omega
theorem CH_pop {fN a x : Nat} {S : Nat → Nat → Int32} {T : Nat → Nat} {am ki di : Nat → Int32} {go : Nat → Int64} (h : CH fN (a + 1) x S T am ki go di) : CH fN a ((x + 13) % 14) (fun i => S (i + 1)) (fun i => T (i + 1)) am ki go di := by
  obtain ⟨h1, h2, h3, h4, h5⟩ := h
  refine ⟨h1, by omega, by omega, fun i hi => h4 (i + 1) (by omega), fun i hi => ?_⟩
  have g := h5 (i + 1) (by omega)
  have e1 : (fN + (a + 1) + 13 - (i + 1)) % 14 = (fN + a + 13 - i) % 14 := by omega
  have e2 : (x + 13 - (i + 1)) % 14 = ((x + 13) % 14 + 13 - i) % 14 := by omega
  rw [e1, e2] at g
  exact g
theorem CH_none {fN x : Nat} {S : Nat → Nat → Int32} {T : Nat → Nat} {am ki di : Nat → Int32} {go : Nat → Int64} (h1 : fN < 14) (h2 : x < 14) (h : Bt (S 0) (T 0)) : CH fN 0 x S T am ki go di :=
  ⟨h1, by omega, h2, fun i hi => by obtain rfl : i = 0 := by omega
                                    exact h, fun i hi => by omega⟩
/-! the class's entries -/
theorem noteC_ok {fu fN a : Nat} {kd amt : Int32} {am ki : Nat → Int32} {Q : Int32 → Int32 → Int32 → (Nat → Int32) → (Nat → Int32) → Prop} (hf : fN < 14) (ha : a ≤ 14) (h : Q (nI ((fN + a) % 14)) (nI (if a = 14 then (fN + 1) % 14 else fN)) (nI (if a < 14 then a + 1 else 14)) (upd am ((fN + a) % 14) amt) (upd ki ((fN + a) % 14) kd)) : wp_X0_note fu kd amt (nI fN) (nI a) am ki Q := by
  unfold wp_X0_note
  have e14 : (14 : Int32) = nI 14 := rfl
  have e1 : (1 : Int32) = nI 1 := rfl
  refine wif (fun c => ?_) (fun c => ?_) <;> rw [e14, nI_eq (by omega) (by omega)] at c
  · subst c
    rw [if_pos rfl, if_neg (by omega)] at h
    unfold wX0_note_32
    rw [e14, e1, nI_add, irm_nI (by omega) (by omega) (by omega), nI_sub (by omega), nI_add, irm_nI (by omega) (by omega) (by omega), nI_add]
    intro y ey
    have e2 : ((fN + 1) % 14 + (14 - 1)) % 14 = (fN + 14) % 14 := by omega
    rw [e2] at ey
    subst ey
    refine ⟨vin (by omega) (by omega), vin (by omega) (by omega), ?_⟩
    rw [ix_nI (by omega)]
    exact h
  · rw [if_neg c, if_pos (by omega)] at h
    unfold wX0_note_32
    rw [e14, e1, nI_add, irm_nI (by omega) (by omega) (by omega), nI_add]
    intro y ey
    subst ey
    refine ⟨vin (by omega) (by omega), vin (by omega) (by omega), ?_⟩
    rw [ix_nI (by omega)]
    exact h
theorem ncz_lp {fu c : Nat} {tk x2 f sz : Int32} {lev am ki : Nat → Int32} {go0 : Nat → Int64} {Q : Int32 → Int32 → (Nat → Int32) → (Nat → Int64) → (Nat → Int32) → Prop} (hc : c < 14)
    (h : ∀ go, (∀ j, j < 6 → go (6 * c + j) = 0) → (∀ q, (q < 6 * c ∨ 6 * c + 6 ≤ q) → go q = go0 q) → wX0_noteCut_39 fu tk lev x2 Q fu (nI (6 * c)) (0 : Int32) f sz am go ki) :
    ∀ (n fuel k : Nat) (go : Nat → Int64), k + n = 6 → n < fuel → (∀ j, j < k → go (6 * c + j) = 0) → (∀ q, (q < 6 * c ∨ 6 * c + 6 ≤ q) → go q = go0 q) → wX0_noteCut_13 fu tk lev x2 Q fuel (nI (6 * c)) (nI k) f sz am go ki := by
  intro n
  induction n with
  | zero =>
    intro fuel k go hk hf h1 h2
    obtain ⟨f, rfl⟩ : ∃ f, fuel = f + 1 := ⟨fuel - 1, by omega⟩
    unfold wX0_noteCut_13
    exact wifp (by simp (disch := omega) only [lit_nI, nI_leI]; omega) (h go (fun j hj => h1 j (by omega)) h2)
  | succ n ih =>
    intro fuel k go hk hf h1 h2
    obtain ⟨f, rfl⟩ : ∃ f, fuel = f + 1 := ⟨fuel - 1, by omega⟩
    unfold wX0_noteCut_13
    refine wifn (by simp (disch := omega) only [lit_nI, nI_leI]; omega) ?_
    rw [nI_add]
    refine ⟨vin (by omega) (by omega), ?_⟩
    rw [show (1 : Int32) = nI 1 from rfl, nI_add, ix_nI (by omega)]
    refine ih f (k + 1) _ (by omega) (by omega) (fun j hj => ?_) (fun q hq => ?_)
    · by_cases e : j = k
      · rw [e]; exact pk_uLs
      · rw [pk_uLn (by omega)]; exact h1 j (by omega)
    · rw [pk_uLn (by omega)]; exact h2 q hq
theorem ncb_lp {fu c t n : Nat} {f sz : Int32} {lev L am ki : Nat → Int32} {go0 : Nat → Int64} {Q : Int32 → Int32 → (Nat → Int32) → (Nat → Int64) → (Nat → Int32) → Prop} (hw : CW lev (nI t) L t) (hb : Bt L t) (hn : n ≤ t) (hc : c < 14)
    (h : ∀ go, (∀ i, i < n → gbt (fun j => go (6 * c + j)) i = L (t - n + i)) → (∀ q, (q < 6 * c ∨ 6 * c + 6 ≤ q) → go q = go0 q) → Q f sz am go ki) :
    ∀ (m fuel k : Nat) (go : Nat → Int64), k + m = n → m < fuel → (∀ i, i < 360 → gbt (fun j => go (6 * c + j)) i = if i < k then L (t - n + i) else 0) → (∀ q, (q < 6 * c ∨ 6 * c + 6 ≤ q) → go q = go0 q) → wX0_noteCut_39 fu (nI t) lev (nI n) Q fuel (nI (6 * c)) (nI k) f sz am go ki := by
  have ht := hw.2.1
  intro m
  induction m with
  | zero =>
    intro fuel k go hk hf h1 h2
    obtain ⟨f, rfl⟩ : ∃ f, fuel = f + 1 := ⟨fuel - 1, by omega⟩
    unfold wX0_noteCut_39
    refine wifp (by rw [nI_leI (by omega) (by omega)]; omega) (h go (fun i hi => ?_) h2)
    rw [h1 i (by omega), if_pos (by omega)]
  | succ m ih =>
    intro fuel k go hk hf h1 h2
    obtain ⟨f, rfl⟩ : ∃ f, fuel = f + 1 := ⟨fuel - 1, by omega⟩
    unfold wX0_noteCut_39
    refine wifn (by rw [nI_leI (by omega) (by omega)]; omega) (wifn (by simp (disch := omega) only [lit_nI, nI_leI]; omega) ?_)
    rw [nI_sub hn, nI_add]
    refine levelAt_ok hw (by omega) ?_
    have eL := hb (t - n + k) (by omega)
    rw [show (64 : Int32) = nI 64 from rfl, nI_div (by omega) (by omega) (by omega), irm_nI (by omega) (by omega) (by omega), nI_add]
    have e64 : 6 * c + k / 64 < 84 := by omega
    refine wif (fun c1 => ⟨vin e64 (by omega), vin e64 (by omega), ?_⟩) (fun c1 => ?_)
    · unfold wX0_noteCut_92
      rw [show (1 : Int32) = nI 1 from rfl, nI_add, ix_nI (by omega)]
      refine ih f (k + 1) _ (by omega) (by omega) (fun i hi => ?_) (fun q hq => ?_)
      · by_cases e : i / 64 = k / 64
        · simp only [gbt]
          rw [e, pk_uLs, gbw_or (by omega) (by omega)]
          by_cases e2 : i % 64 = k % 64
          · obtain rfl : i = k := by omega
            rw [if_pos rfl, if_pos (by omega), c1]
          · have e3 := h1 i hi
            simp only [gbt] at e3
            rw [e] at e3
            rw [if_neg e2, e3]
            have e4 : i ≠ k := by intro e4; rw [e4] at e2; exact e2 rfl
            by_cases e5 : i < k
            · rw [if_pos e5, if_pos (by omega)]
            · rw [if_neg e5, if_neg (by omega)]
        · have e3 := h1 i hi
          simp only [gbt] at e3 ⊢
          rw [pk_uLn (by omega), e3]
          have e4 : i ≠ k := by intro e4; rw [e4] at e; exact e rfl
          by_cases e5 : i < k
          · rw [if_pos e5, if_pos (by omega)]
          · rw [if_neg e5, if_neg (by omega)]
      · rw [pk_uLn (by omega)]; exact h2 q hq
    · unfold wX0_noteCut_92
      rw [show (1 : Int32) = nI 1 from rfl, nI_add]
      refine ih f (k + 1) _ (by omega) (by omega) (fun i hi => ?_) h2
      rw [h1 i hi]
      by_cases e4 : i = k
      · rw [if_neg (by omega), if_pos (by omega), e4]
        rcases eL with e5 | e5
        · exact e5.symm
        · exact absurd e5 c1
      · by_cases e5 : i < k
        · rw [if_pos e5, if_pos (by omega)]
        · rw [if_neg e5, if_neg (by omega)]
theorem noteCut_ok {fu fN a t n : Nat} {lev L am ki : Nat → Int32} {go : Nat → Int64} {Q : Int32 → Int32 → (Nat → Int32) → (Nat → Int64) → (Nat → Int32) → Prop} (hfu : 400 ≤ fu) (hf : fN < 14) (ha : a ≤ 14) (hw : CW lev (nI t) L t) (hb : Bt L t) (hn : n ≤ t)
    (h : ∀ go', (∀ i, i < n → gbt (fun j => go' (6 * ((fN + a) % 14) + j)) i = L (t - n + i)) → (∀ q, (q < 6 * ((fN + a) % 14) ∨ 6 * ((fN + a) % 14) + 6 ≤ q) → go' q = go q) → Q (nI (if a = 14 then (fN + 1) % 14 else fN)) (nI (if a < 14 then a + 1 else 14)) (upd am ((fN + a) % 14) (nI n)) go' (upd ki ((fN + a) % 14) 2)) : wp_X0_noteCut fu (nI t) lev (nI n) (nI fN) (nI a) am go ki Q := by
  have ht := hw.2.1
  unfold wp_X0_noteCut
  refine noteC_ok hf ha ?_
  rw [show (6 : Int32) = nI 6 from rfl, nI_mul]
  intro y ey
  subst ey
  refine ncz_lp (by omega) (fun go1 g1 g2 => ?_) 6 fu 0 go (by omega) (by omega) (fun j hj => by omega) (fun q hq => rfl)
  refine ncb_lp hw hb hn (by omega) h n fu 0 go1 (by omega) (by omega) (fun i hi => ?_) g2
  simp only [gbt]
  rw [if_neg (by omega), g1 _ (by omega), gbw_zero (by omega)]
theorem bringBack_lp {fu c t n : Nat} {am L' : Nat → Int32} {go : Nat → Int64} {Q : Int32 → (Nat → Int32) → Prop} (hfu : 400 ≤ fu) (hc : c < 14) (ham : am c = nI n) (hn : t + n ≤ 360) (hL : ∀ i, i < n → L' (t + i) = gbt (fun j => go (6 * c + j)) i)
    (h : ∀ lev', CW lev' (nI (t + n)) L' (t + n) → Q (nI (t + n)) lev') :
    ∀ (m fuel k : Nat) (lev : Nat → Int32), k + m = n → m < fuel → CW lev (nI (t + k)) L' (t + k) → wX0_bringBack_2 fu am go (nI c) Q fuel (nI k) (nI (t + k)) lev := by
  intro m
  induction m with
  | zero =>
    intro fuel k lev hk hf hw
    obtain ⟨f, rfl⟩ : ∃ f, fuel = f + 1 := ⟨fuel - 1, by omega⟩
    obtain rfl : k = n := by omega
    unfold wX0_bringBack_2
    refine ⟨vin (by omega) (by omega), wifp ?_ (h lev hw)⟩
    rw [ix_nI (by omega), ham, nI_leI (by omega) (by omega)]
    omega
  | succ m ih =>
    intro fuel k lev hk hf hw
    obtain ⟨f, rfl⟩ : ∃ f, fuel = f + 1 := ⟨fuel - 1, by omega⟩
    unfold wX0_bringBack_2
    refine ⟨vin (by omega) (by omega), wifn ?_ (wifn (by simp (disch := omega) only [lit_nI, nI_leI]; omega) ?_)⟩
    · rw [ix_nI (by omega), ham, nI_leI (by omega) (by omega)]
      omega
    · rw [show (64 : Int32) = nI 64 from rfl, show (6 : Int32) = nI 6 from rfl, nI_mul, nI_div (by omega) (by omega) (by omega), irm_nI (by omega) (by omega) (by omega), nI_add, show (1 : Int32) = nI 1 from rfl, nI_add, ix_nI (by omega)]
      refine ⟨vin (by omega) (by omega), fun y ey => ?_⟩
      subst ey
      refine extend_ok hfu hw (by omega) (fun lev' hw' => ?_)
      refine ih f (k + 1) lev' (by omega) (by omega) ⟨rfl, by omega, fun i hi => ?_⟩
      rw [hw'.2.2 i hi, xt]
      by_cases e : i < t + k
      · rw [if_pos e]
      · rw [if_neg e]
        obtain rfl : i = t + k := by omega
        rw [hL k (by omega)]
        rfl
theorem CW_eq {lev : Nat → Int32} {tk : Int32} {L L' : Nat → Int32} {t : Nat} (h : CW lev tk L t) (e : ∀ i, i < t → L' i = L i) : CW lev tk L' t :=
  ⟨h.1, h.2.1, fun i hi => by rw [h.2.2 i hi, e i hi]⟩
theorem takeBack_ok {fu fN a x : Nat} {S : Nat → Nat → Int32} {T : Nat → Nat} {am ki di lev : Nat → Int32} {go : Nat → Int64} {Q : Int32 → Int32 → (Nat → Int32) → Prop} (hfu : 400 ≤ fu) (hc : CH fN (a + 1) x S T am ki go di) (hw : CW lev (nI (T 0)) (S 0) (T 0)) (h : ∀ lev', CW lev' (nI (T 1)) (S 1) (T 1) → Q (nI a) (nI (T 1)) lev') : wp_X0_takeBackLast fu (nI fN) am go ki (nI (a + 1)) (nI (T 0)) lev Q := by
  obtain ⟨h1, h2, h3, h4, h5⟩ := hc
  obtain ⟨g1, g2⟩ := h5 0 (by omega)
  have ht := hw.2.1
  have ht1 := g1.2.1
  rw [show (fN + (a + 1) + 13 - 0) % 14 = (fN + a) % 14 by omega] at g2
  change UR _ _ _ (S 0) (T 0) (S 1) (T 1) at g2
  unfold wp_X0_takeBackLast
  have e1 : (1 : Int32) = nI 1 := rfl
  refine wifn (by simp (disch := omega) only [lit_nI, nI_eq]; omega) ?_
  rw [e1, nI_sub (by omega), show (14 : Int32) = nI 14 from rfl, nI_add, irm_nI (by omega) (by omega) (by omega), show a + 1 - 1 = a by omega]
  intro y ey
  subst ey
  have hv : vp_in (nI ((fN + a) % 14)) 14 := vin (by omega) (by omega)
  rw [ix_nI (by omega)]
  refine ⟨hv, ?_⟩
  rcases g2 with ⟨k1, n, k2, k3, k4, k5⟩ | ⟨k1, j, k2, k3, k4, k5⟩ | ⟨k1, n, k2, k3, k4, k5, k6⟩
  · refine wifp k1 ⟨hv, ?_⟩
    rw [k3]
    refine shorten_ok ht (by omega) ?_
    rw [show T 0 - n = T 1 by omega]
    exact h lev ⟨rfl, ht1, fun i hi => by rw [hw.2.2 i (by omega), k5 i hi]⟩
  · refine wifn (by rw [k1]; decide) ⟨hv, wifp k1 ⟨hv, ?_⟩⟩
    rw [k3]
    refine turnOver_ok hw k2 (fun lev' hw' => ?_)
    rw [k4] at h
    exact h lev' (CW_eq hw' k5)
  · refine wifn (by rw [k1]; decide) ⟨hv, wifn (by rw [k1]; decide) ?_⟩
    unfold wp_X0_bringBack
    rw [k4] at h ht1
    have hw' : CW lev (nI (T 0 + 0)) (S 1) (T 0 + 0) := CW_eq hw (fun i hi => k5 i hi)
    exact bringBack_lp hfu (by omega) k3 ht1 k6 h n fu 0 lev (by omega) (by omega) hw'
