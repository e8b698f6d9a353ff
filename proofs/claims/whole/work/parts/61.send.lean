/-! a letter sent by a guess -/
def lvb (idle : Int32) (o : Nat) : Int32 := if o = 1 then idle else 1 - idle
def bt (v k : Nat) : Nat := v / 2 ^ k % 2
def onn (v : Nat) : Nat → Nat
  | 0 => 0
  | k + 1 => onn v k + bt v k
def sw (L : Nat → Int32) (t b : Nat) (idle : Int32) (v : Nat) : Nat → (Nat → Int32)
  | 0 => xt (xt L t idle) (t + b) (1 - idle)
  | k + 1 => xt (sw L t b idle v k) (t + b * (2 + k)) (lvb idle (bt v k))
def pv (p v d : Nat) : Nat := if p = 1 then onn v d % 2 else 1 - onn v d % 2
def SD (L : Nat → Int32) (t b d p s : Nat) (idle : Int32) (v : Nat) : Nat → Int32 :=
  if p = 0 then xt (sw L t b idle v d) (t + b * (2 + d)) idle else xt (xt (sw L t b idle v d) (t + b * (2 + d)) (lvb idle (pv p v d))) (t + b * (3 + d)) idle
theorem bt_le (v k : Nat) : bt v k ≤ 1 := by unfold bt; omega
theorem onn_le (v : Nat) : ∀ k, onn v k ≤ k := by
  intro k
  induction k with
  | zero => exact Nat.le_refl 0
  | succ k ih => have := bt_le v k; rw [onn]; omega
theorem lvb_bit {idle : Int32} (h : idle = 0 ∨ idle = 1) (o : Nat) : lvb idle o = 0 ∨ lvb idle o = 1 := by
  unfold lvb
  by_cases c : o = 1
  · rw [if_pos c]; exact h
  · rw [if_neg c]
    rcases h with e | e <;> rw [e]
    · exact Or.inr rfl
    · exact Or.inl rfl
theorem not_bit {idle : Int32} (h : idle = 0 ∨ idle = 1) : 1 - idle = 0 ∨ 1 - idle = 1 := by
  rcases h with e | e <;> rw [e]
  · exact Or.inr rfl
  · exact Or.inl rfl
theorem Bt_sw {L : Nat → Int32} {t b v : Nat} {idle : Int32} (h : Bt L t) (hi : idle = 0 ∨ idle = 1) : ∀ k n, Bt (sw L t b idle v k) n := by
  intro k
  induction k with
  | zero => intro n; exact Bt_xt (Bt_xt h hi) (not_bit hi)
  | succ k ih => intro n; exact Bt_xt (ih _) (lvb_bit hi _)
theorem Bt_SD {L : Nat → Int32} {t b d p s v n : Nat} {idle : Int32} (h : Bt L t) (hi : idle = 0 ∨ idle = 1) : Bt (SD L t b d p s idle v) n := by
  unfold SD
  by_cases c : p = 0
  · rw [if_pos c]; exact Bt_xt (Bt_sw h hi _ _) hi
  · rw [if_neg c]; exact Bt_xt (Bt_xt (Bt_sw h hi _ _) (lvb_bit hi _)) hi
theorem levelOf_ok {fu o : Nat} {idle : Int32} {Q : Int32 → Prop} (ho : o ≤ 1) (h : Q (lvb idle o)) : wp_X1_levelOf fu idle (nI o) Q := by
  unfold wp_X1_levelOf
  unfold lvb at h
  rcases (show o = 0 ∨ o = 1 by omega) with rfl | rfl
  · rw [if_neg (by omega)] at h
    exact wifn (by decide) h
  · rw [if_pos rfl] at h
    exact wifp (by decide) h
theorem parityFor_ok {fu p v d : Nat} {Q : Int32 → Prop} (hp : p ≤ 2) (hd : d ≤ 8) (h : Q (nI (pv p v d))) : wp_X1_parityFor fu (nI p) (nI (onn v d)) Q := by
  unfold wp_X1_parityFor
  have h1 := onn_le v d
  unfold pv at h
  simp (disch := omega) only [lit_nI, nI_eq, irm_nI]
  refine wif (fun c => ?_) (fun c => ?_)
  · rw [if_pos c] at h; exact h
  · rw [if_neg c] at h
    rw [nI_sub (by omega)]; exact h
theorem ml1 (b k : Nat) : b * (2 + (k + 1)) = b * (2 + k) + b := by rw [show 2 + (k + 1) = (2 + k) + 1 by omega, Nat.mul_add, Nat.mul_one]
theorem ml2 (b k : Nat) : b * (3 + k) = b * (2 + k) + b := by rw [show 3 + k = (2 + k) + 1 by omega, Nat.mul_add, Nat.mul_one]
theorem nb_tot0 (b d s : Nat) : b * (1 + nb d 0 s) = b * (2 + d) + s * b := by
  unfold nb
  rw [if_pos rfl, show 1 + (1 + d + 0 + s) = (2 + d) + s by omega, Nat.mul_add, Nat.mul_comm s b]
theorem nb_tot1 (b d p s : Nat) (h : p ≠ 0) : b * (1 + nb d p s) = b * (3 + d) + s * b := by
  unfold nb
  rw [if_neg h, show 1 + (1 + d + 1 + s) = (3 + d) + s by omega, Nat.mul_add, Nat.mul_comm s b]
theorem ebl_lp {fu t b d p s v : Nat} {L : Nat → Int32} {idle : Int32} {Q : Int32 → (Nat → Int32) → Prop} (hfu : 400 ≤ fu) (hg : GOK b d p s idle) (hv : v < 256) (hr : t + b * (1 + nb d p s) ≤ 360)
    (h : ∀ lev', CW lev' (nI (t + b * (1 + nb d p s))) (SD L t b d p s idle v) (t + b * (1 + nb d p s)) → Q (nI (t + b * (1 + nb d p s))) lev') :
    ∀ (n fuel k : Nat) (lev : Nat → Int32), k + n = d → n < fuel → CW lev (nI (t + b * (2 + k))) (sw L t b idle v k) (t + b * (2 + k)) → wX8_extendByLetter_31 fu (nI b) (nI d) idle (nI p) (nI s) (nI v) Q fuel (nI b) (nI (onn v k)) (nI k) (nI (t + b * (2 + k))) lev := by
  obtain ⟨hb1, hb, hd1, hd, hp, hs1, hs, hi⟩ := id hg
  intro n
  induction n with
  | zero =>
    intro fuel k lev hk hf hw
    obtain ⟨f, rfl⟩ : ∃ f, fuel = f + 1 := ⟨fuel - 1, by omega⟩
    obtain rfl : k = d := by omega
    unfold wX8_extendByLetter_31
    refine wifp (by rw [nI_leI (by omega) (by omega)]; omega) ?_
    have hsb : s * b ≤ 32 := Nat.mul_le_mul hs hb
    by_cases c : p = 0
    · subst c
      rw [nb_tot0] at hr h
      refine wifp rfl ?_
      unfold wX8_extendByLetter_94
      rw [nI_mul]
      refine extend_ok hfu hw (by omega) (fun lev' hw' => ?_)
      rw [Nat.add_assoc] at hw' ⊢
      refine h lev' ?_
      rw [SD, if_pos rfl]
      exact hw'
    · rw [nb_tot1 _ _ _ _ c] at hr h
      refine wifn (by simp (disch := omega) only [lit_nI, nI_eq]; omega) ?_
      refine parityFor_ok hp hd (levelOf_ok (by unfold pv; by_cases c : p = 1 <;> simp only [c, if_true, if_false] <;> omega) ?_)
      have e3 := ml2 b k
      refine extend_ok hfu hw (by omega) (fun lev' hw' => ?_)
      unfold wX8_extendByLetter_94
      rw [nI_mul]
      rw [show t + b * (2 + k) + b = t + b * (3 + k) by omega] at hw' ⊢
      refine extend_ok hfu hw' (by omega) (fun lev' hw' => ?_)
      rw [Nat.add_assoc] at hw' ⊢
      refine h lev' ?_
      rw [SD, if_neg c]
      exact hw'
  | succ n ih =>
    intro fuel k lev hk hf hw
    obtain ⟨f, rfl⟩ : ∃ f, fuel = f + 1 := ⟨fuel - 1, by omega⟩
    have h1 := bt_le v k
    have e2 := ml1 b k
    have e4 : b * (2 + (k + 1)) ≤ b * (1 + nb d p s) := Nat.mul_le_mul_left b (by unfold nb; omega)
    unfold wX8_extendByLetter_31
    refine wifn (by rw [nI_leI (by omega) (by omega)]; omega) ?_
    rw [shr_and (by omega) (by omega)]
    intro y ey z ez
    subst ey ez
    rw [nI_add]
    refine levelOf_ok h1 ?_
    refine extend_ok hfu hw (by omega) (fun lev' hw' => ?_)
    rw [show t + b * (2 + k) + b = t + b * (2 + (k + 1)) by omega] at hw' ⊢
    rw [show (1 : Int32) = nI 1 from rfl, nI_add]
    exact ih f (k + 1) lev' (by omega) (by omega) hw'
theorem extendByLetter_ok {fu t b d p s v : Nat} {L lev : Nat → Int32} {idle : Int32} {Q : Int32 → (Nat → Int32) → Prop} (hfu : 400 ≤ fu) (hw : CW lev (nI t) L t) (hg : GOK b d p s idle) (hv : v < 256) (hr : t + b * (1 + nb d p s) ≤ 360)
    (h : ∀ lev', CW lev' (nI (t + b * (1 + nb d p s))) (SD L t b d p s idle v) (t + b * (1 + nb d p s)) → Q (nI (t + b * (1 + nb d p s))) lev') : wp_X8_extendByLetter fu (nI b) (nI d) idle (nI p) (nI s) (nI v) (nI t) lev Q := by
  have hb := hg.2.1
  have hd := hg.2.2.2.1
  have e4 : b * (2 + 0) ≤ b * (1 + nb d p s) := Nat.mul_le_mul_left b (by unfold nb; omega)
  unfold wp_X8_extendByLetter
  refine extend_ok hfu hw (by omega) (fun lev1 hw1 => ?_)
  refine extend_ok hfu hw1 (by omega) (fun lev2 hw2 => ?_)
  rw [show t + b + b = t + b * (2 + 0) by omega] at hw2 ⊢
  exact ebl_lp hfu hg hv hr h d fu 0 lev2 (by omega) (by omega) hw2
theorem son_lp {fu t b d p s v : Nat} {L : Nat → Int32} {idle : Int32} {Q : (Nat → Int32) → Prop} (hfu : 400 ≤ fu) (hg : GOK b d p s idle) (hv : v < 256) (hr : t + b * (1 + nb d p s) ≤ 360)
    (h : ∀ r, MW r (SD L t b d p s idle v) (t + b * (1 + nb d p s)) → Q r) :
    ∀ (n fuel k : Nat) (row : Nat → Int32), k + n = d → n < fuel → MW row (sw L t b idle v k) (t + b * (2 + k)) → wX10_sendOn_31 fu (nI d) idle (nI p) (nI s) (nI b) (nI v) Q fuel (nI (onn v k % 2)) (nI k) row := by
  obtain ⟨hb1, hb, hd1, hd, hp, hs1, hs, hi⟩ := id hg
  intro n
  induction n with
  | zero =>
    intro fuel k row hk hf hw
    obtain ⟨f, rfl⟩ : ∃ f, fuel = f + 1 := ⟨fuel - 1, by omega⟩
    obtain rfl : k = d := by omega
    unfold wX10_sendOn_31
    refine wifp (by rw [nI_leI (by omega) (by omega)]; omega) ?_
    have hsb : s * b ≤ 32 := Nat.mul_le_mul hs hb
    by_cases c : p = 0
    · subst c
      rw [nb_tot0] at hr h
      refine wifp (by decide) ?_
      unfold wX10_sendOn_152
      rw [nI_mul, Nat.mul_comm b s]
      refine hearOn_ok hfu hw (by omega) (fun r hw' => ?_)
      rw [Nat.add_assoc] at hw'
      refine h r ?_
      rw [SD, if_pos rfl]
      exact hw'
    · rw [nb_tot1 _ _ _ _ c] at hr h
      refine wifn (by simp (disch := omega) only [lit_nI, nI_leI]; omega) ?_
      have e3 := ml2 b k
      have key : ∀ x : Int32, x = lvb idle (pv p v k) → wX10_sendOn_145 fu (nI k) idle (nI p) (nI s) (nI b) (nI v) Q x row := by
        intro x ex
        subst ex
        unfold wX10_sendOn_145
        refine hearOn_ok hfu hw (by omega) (fun r hw' => ?_)
        unfold wX10_sendOn_152
        rw [nI_mul, Nat.mul_comm b s]
        rw [show t + b * (2 + k) + b = t + b * (3 + k) by omega] at hw'
        refine hearOn_ok hfu hw' (by omega) (fun r hw' => ?_)
        rw [Nat.add_assoc] at hw'
        refine h r ?_
        rw [SD, if_neg c]
        exact hw'
      unfold lvb pv at key
      rcases (show onn v k % 2 = 0 ∨ onn v k % 2 = 1 by omega) with eo | eo <;> rw [eo] at key ⊢ <;> rcases (show p = 1 ∨ p = 2 by omega) with rfl | rfl
      · exact wifn (by decide) (wifp (by decide) (wifn (by decide) (wifp (by decide) (key _ rfl))))
      · exact wifn (by decide) (wifn (by decide) (wifp (by decide) (wifn (by decide) (key _ rfl))))
      · exact wifp (by decide) (wifp (by decide) (wifp (by decide) (wifn (by decide) (key _ rfl))))
      · exact wifp (by decide) (wifn (by decide) (wifn (by decide) (wifp (by decide) (key _ rfl))))
  | succ n ih =>
    intro fuel k row hk hf hw
    obtain ⟨f, rfl⟩ : ∃ f, fuel = f + 1 := ⟨fuel - 1, by omega⟩
    have h1 := bt_le v k
    have e2 := ml1 b k
    have e4 : b * (2 + (k + 1)) ≤ b * (1 + nb d p s) := Nat.mul_le_mul_left b (by unfold nb; omega)
    unfold wX10_sendOn_31
    refine wifn (by rw [nI_leI (by omega) (by omega)]; omega) ?_
    rw [shr_and (by omega) (by omega)]
    intro y ey z ez
    have ez2 : z = nI (onn v (k + 1) % 2) := by
      rw [ez, ey, onn]
      change nI (onn v k % 2) ^^^ nI (bt v k) = _
      rcases (show onn v k % 2 = 0 ∨ onn v k % 2 = 1 by omega) with eo | eo <;> rcases (show bt v k = 0 ∨ bt v k = 1 by omega) with eb | eb <;> rw [eo, eb]
      · rw [show (onn v k + 0) % 2 = 0 by omega]; decide
      · rw [show (onn v k + 1) % 2 = 1 by omega]; decide
      · rw [show (onn v k + 0) % 2 = 1 by omega]; decide
      · rw [show (onn v k + 1) % 2 = 0 by omega]; decide
    have key : ∀ x : Int32, x = lvb idle (bt v k) → wX10_sendOn_73 fu (nI d) idle (nI p) (nI s) (nI b) (nI v) Q (wX10_sendOn_31 fu (nI d) idle (nI p) (nI s) (nI b) (nI v) Q f) z (nI k) x row := by
      intro x ex
      subst ex
      unfold wX10_sendOn_73
      refine hearOn_ok hfu hw (by omega) (fun r hw' => ?_)
      rw [show t + b * (2 + k) + b = t + b * (2 + (k + 1)) by omega] at hw'
      rw [ez2, show (1 : Int32) = nI 1 from rfl, nI_add]
      exact ih f (k + 1) r (by omega) (by omega) hw'
    change y = nI (bt v k) at ey
    subst ey
    unfold lvb at key
    rcases (show bt v k = 0 ∨ bt v k = 1 by omega) with eb | eb <;> rw [eb] at key ⊢
    · exact wifn (by decide) (key _ (by rw [if_neg (by omega)]))
    · exact wifp (by decide) (key _ (by rw [if_pos rfl]))
theorem sendOn_ok {fu t b d p s v : Nat} {L row : Nat → Int32} {idle : Int32} {Q : (Nat → Int32) → Prop} (hfu : 400 ≤ fu) (hw : MW row L t) (hg : GOK b d p s idle) (hv : v < 256) (hr : t + b * (1 + nb d p s) ≤ 360)
    (h : ∀ r, MW r (SD L t b d p s idle v) (t + b * (1 + nb d p s)) → Q r) : wp_X10_sendOn fu (nI d) idle (nI p) (nI s) (nI b) (nI v) row Q := by
  have hb := hg.2.1
  have hd := hg.2.2.2.1
  have e4 : b * (2 + 0) ≤ b * (1 + nb d p s) := Nat.mul_le_mul_left b (by unfold nb; omega)
  unfold wp_X10_sendOn
  refine hearOn_ok hfu hw (by omega) (fun r1 hw1 => ?_)
  refine hearOn_ok hfu hw1 (by omega) (fun r2 hw2 => ?_)
  rw [show t + b + b = t + b * (2 + 0) by omega] at hw2
  exact son_lp hfu hg hv hr h d fu 0 r2 (by omega) (by omega) hw2
theorem nbb_le {b d p s : Nat} {idle : Int32} (hg : GOK b d p s idle) : b * (1 + nb d p s) ≤ 208 := by
  have h1 := (nb_le hg).2
  have h2 : b * (1 + nb d p s) ≤ 16 * 13 := Nat.mul_le_mul hg.2.1 (by omega)
  omega
theorem ticksOfLetter_ok {fu b d p s : Nat} {idle : Int32} {Q : Int32 → Prop} (hg : GOK b d p s idle) (h : Q (nI (b * (1 + nb d p s)))) : wp_X1_ticksOfLetter fu (nI b) (nI d) (nI p) (nI s) Q := by
  unfold wp_X1_ticksOfLetter
  refine bitsOfFrame_ok hg.2.2.2.1 hg.2.2.2.2.1 hg.2.2.2.2.2.2.1 ?_
  rw [show (1 : Int32) = nI 1 from rfl, nI_add, nI_mul]
  exact h
theorem hasRoom_ok {fu t b d p s : Nat} {row L : Nat → Int32} {idle : Int32} {Q : Int32 → Prop} (hw : MW row L t) (hg : GOK b d p s idle) (h1 : t + b * (1 + nb d p s) ≤ 360 → Q 1) (h0 : 360 < t + b * (1 + nb d p s) → Q 0) : wp_X10_hasRoom fu (nI d) (nI p) (nI s) (nI b) row Q := by
  have h2 := nbb_le hg
  have ht := hw.2.1
  unfold wp_X10_hasRoom
  refine frameBits_ok hg.2.2.2.1 hg.2.2.2.2.1 hg.2.2.2.2.2.2.1 ?_
  rw [show ix (360 : Int32) = 360 from rfl, hw.1, show (1 : Int32) = nI 1 from rfl, show (360 : Int32) = nI 360 from rfl, nI_add, nI_mul, nI_add]
  refine wif (fun c => ?_) (fun c => ?_) <;> rw [nI_ltI (by omega) (by omega)] at c
  · exact h0 c
  · exact h1 (by omega)
theorem sw_low {L : Nat → Int32} {t b v i : Nat} {idle : Int32} (h : i < t) : ∀ k, sw L t b idle v k i = L i := by
  intro k
  induction k with
  | zero => rw [sw, xt, if_pos (by omega), xt, if_pos h]
  | succ k ih => rw [sw, xt, if_pos (by omega), ih]
theorem SD_low {L : Nat → Int32} {t b d p s v i : Nat} {idle : Int32} (h : i < t) : SD L t b d p s idle v i = L i := by
  unfold SD
  by_cases c : p = 0
  · rw [if_pos c, xt, if_pos (by omega), sw_low h]
  · rw [if_neg c, xt, if_pos (by omega), xt, if_pos (by omega), sw_low h]
