/-! the text on both sides -/
def TI (ln : Int32) (le : Nat → Int32) (lt : Int32) (te : Nat → Int32) : Prop := ∃ n c, ln = nI n ∧ lt = nI n ∧ TC n c le ∧ TC n c te
theorem isFullT_ok {fu n : Nat} {Q : Int32 → Prop} (hn : n ≤ 99) (h0 : n < 99 → Q 0) (h1 : n = 99 → Q 1) : wp_X7_isFull fu (nI n) Q := by
  unfold wp_X7_isFull
  refine wif (fun g => ?_) (fun g => ?_) <;> rw [show (99 : Int32) = nI 99 from rfl, nI_ltI (by omega) (by omega)] at g
  · exact h0 g
  · exact h1 (by omega)
theorem TC_push {n v : Nat} {c : Nat → Nat} {le : Nat → Int32} (h : TC n c le) (hn : n < 99) (hv : v ≤ 255) : TC (n + 1) (fun i => if i = n then v else c i) (upd le n (nI v)) := by
  refine ⟨by omega, fun i hi => ?_⟩
  rw [upd_ite]
  by_cases e : i = n
  · simp only [if_pos e]; exact ⟨trivial, hv⟩
  · simp only [if_neg e]; exact h.2 i (by omega)
theorem write_both {fu : Nat} {x1 ln lt : Int32} {le te : Nat → Int32} {Qc : Int32 → Int32 → (Nat → Int32) → Prop} (hT : TI ln le lt te)
    (h : ∀ r ln' le', (∀ K : Int32 → Int32 → (Nat → Int32) → Prop, (∀ lt' te', TI ln' le' lt' te' → K r lt' te') → wp_X10_write fu x1 lt te K) → Qc r ln' le') : wp_X9_write fu x1 ln le Qc := by
  obtain ⟨n, c, rfl, rfl, h1, h2⟩ := id hT
  have hn := h1.1
  unfold wp_X9_write
  refine isLetter_ok (fun g1 => wifn (by decide) ?_) (fun g1 => wifp rfl ?_)
  · refine isFullT_ok hn (fun g2 => wifp rfl ?_) (fun g2 => wifn (by decide) ?_)
    · unfold wp_X7_add
      refine isFullT_ok hn (fun _ => wifp rfl ⟨vin (by omega) (by omega), ?_⟩) (fun g => by omega)
      refine h _ _ _ (fun K hK => ?_)
      unfold wp_X10_write
      refine inr_ok (lo := 0) (hi := 255) (by omega) rfl rfl (fun _ => wifn (by decide) ?_) (fun g => absurd g1 g)
      refine wifn (by rw [show (99 : Int32) = nI 99 from rfl, nI_eq (by omega) (by omega)]; omega) ⟨vin (by omega) (by omega), ?_⟩
      obtain ⟨v, -, v2, rfl⟩ := g1
      refine hK _ _ ⟨n + 1, fun i => if i = n then v else c i, ?_, ?_, ?_, ?_⟩
      · rw [show (1 : Int32) = nI 1 from rfl, nI_add]
      · rw [show (1 : Int32) = nI 1 from rfl, nI_add]
      · rw [ix_nI (by omega)]; exact TC_push h1 g2 v2
      · rw [ix_nI (by omega)]; exact TC_push h2 g2 v2
    · refine h _ _ _ (fun K hK => ?_)
      unfold wp_X10_write
      refine inr_ok (lo := 0) (hi := 255) (by omega) rfl rfl (fun _ => wifn (by decide) ?_) (fun g => absurd g1 g)
      exact wifp (by rw [show (99 : Int32) = nI 99 from rfl, nI_eq (by omega) (by omega)]; omega) (hK _ _ hT)
  · refine h _ _ _ (fun K hK => ?_)
    unfold wp_X10_write
    exact inr_ok (lo := 0) (hi := 255) (by omega) rfl rfl (fun g => absurd g g1) (fun _ => wifp rfl (hK _ _ hT))
theorem wipe_both {fu : Nat} {ln lt : Int32} {le te : Nat → Int32} {Qc : Int32 → Int32 → Prop} (hT : TI ln le lt te)
    (h : ∀ r ln', (∀ K : Int32 → Int32 → Prop, (∀ lt', TI ln' le lt' te → K r lt') → wp_X10_wipe fu lt K) → Qc r ln') : wp_X9_wipe fu ln Qc := by
  obtain ⟨n, c, rfl, rfl, h1, h2⟩ := id hT
  unfold wp_X9_wipe
  refine h _ _ (fun K hK => ?_)
  unfold wp_X10_wipe
  exact hK _ ⟨0, c, rfl, rfl, ⟨by omega, fun i hi => by omega⟩, ⟨by omega, fun i hi => by omega⟩⟩
theorem oI_n9 {o : Option Nat} (h : ∀ k, o = some k → k < 2 ^ 31) : oI o = -9 ↔ o = none := by
  cases o with
  | none => exact ⟨fun _ => rfl, fun _ => rfl⟩
  | some k =>
    constructor
    · intro e
      have e2 : nI k = -nI 9 := e
      rw [nI_n9 (h k rfl)] at e2
      exact e2.elim
    · intro e; cases e
theorem scan_lt {c : Nat → Nat} {n : Nat} : ∀ (f p m k : Nat), scan c n f p m = some k → k ≤ p + 3 * f := by
  intro f
  induction f with
  | zero => intro p m k h; cases h
  | succ f ih =>
    intro p m k h
    unfold scan at h
    split at h
    · cases h
    · split at h
      · cases h; omega
      · split at h
        · cases h; omega
        · split at h
          · cases h; omega
          · have := ih _ _ _ h; omega
theorem FF_lt {c : Nat → Nat} {n k : Nat} (h : FF c n = some k) : k < 2 ^ 31 := by
  unfold FF at h
  split at h
  · cases h; omega
  · split at h
    · cases h; omega
    · have := scan_lt _ _ _ _ h; omega
theorem fault_both {fu : Nat} {ln lt m1 m2 m3 m4 : Int32} {le te m5 : Nat → Int32} {Qc : Int32 → Prop} (hfu : 1000 ≤ fu) (hT : TI ln le lt te)
    (h : ∀ r, (∀ K : Int32 → Int32 → Int32 → Int32 → Int32 → (Nat → Int32) → Prop, (∀ z1 z2 z3 z4 z5, K r z1 z2 z3 z4 z5) → wp_X10_fault fu lt te m1 m2 m3 m4 m5 K) → Qc r) : wp_X9_fault fu ln le Qc := by
  obtain ⟨n, c, rfl, rfl, h1, h2⟩ := id hT
  unfold wp_X9_fault
  refine firstFault_ok (by omega) h1 (h _ (fun K hK => ?_))
  unfold wp_X10_fault
  refine readText_ok hfu h2 (fun e pa lv' ten' rt' _ => ?_) (fun k e pa lv' rm' ten' rt' => ?_)
  · rw [e] at hK; exact hK _ _ _ _ _
  · rw [e] at hK; exact hK _ _ _ _ _
theorem clearS_ok {fu : Nat} {us : Nat → Int32} {Q : (Nat → Int32) → Prop} (hfu : 400 ≤ fu) (h : ∀ us', us' 0 = 0 → us' 1 = 0 → Q us') : wp_X6_clear fu us Q := by
  obtain ⟨f, rfl⟩ : ∃ f, fu = f + 3 := ⟨fu - 3, by omega⟩
  unfold wp_X6_clear wX6_clear_2
  refine wifn (by decide) ⟨vin (n := 0) (by omega) (by omega), ?_⟩
  unfold wX6_clear_2
  refine wifn (by decide) ⟨vin (n := 1) (by omega) (by omega), ?_⟩
  unfold wX6_clear_2
  refine wifp (by decide) (h _ ?_ ?_)
  · rw [show ix (0 + (1 : Int32)) = 1 from rfl, upd_n (by omega)]; exact upd_s
  · exact upd_s
theorem takeM_lp {fu m : Nat} {v1 : Int32} {v2 : Nat → Int32} {L ik rt : Nat → Int32} {pa lv ten ac : Int32} {Q : Int32 → Int32 → Int32 → Int32 → Int32 → Int32 → (Nat → Int32) → (Nat → Int32) → (Nat → Int32) → Prop} (hm : m ≤ 360) (hr : ∀ i, i < m → rt i = L i)
    (h : ∀ ik' now', ik' 0 = 0 → ik' 1 = 0 → MW now' L m → Q (nI m) 0 pa lv (nI m) ten ik' now' rt) :
    ∀ (j fuel k : Nat) (now : Nat → Int32), k + j = 360 → j < fuel → (∀ i, i < k → i < m → now i = L i) → wX10_take_14 fu v1 v2 Q fuel (nI k) ac pa lv (nI m) ten ik now rt := by
  intro j
  induction j with
  | zero =>
    intro fuel k now hk hf h1
    obtain ⟨f, rfl⟩ : ∃ f, fuel = f + 1 := ⟨fuel - 1, by omega⟩
    unfold wX10_take_14
    refine wifp (by simp (disch := omega) only [lit_nI, nI_leI]; omega) (h _ _ ?_ ?_ ⟨?_, hm, fun i hi => ?_⟩)
    · rw [show ix (1 : Int32) = 1 from rfl, show ix (0 : Int32) = 0 from rfl, upd_n (by omega)]; exact upd_s
    · exact upd_s
    · exact upd_s
    · rw [show ix (360 : Int32) = 360 from rfl, upd_n (by omega)]; exact h1 i (by omega) hi
  | succ j ih =>
    intro fuel k now hk hf h1
    obtain ⟨f, rfl⟩ : ∃ f, fuel = f + 1 := ⟨fuel - 1, by omega⟩
    unfold wX10_take_14
    refine wifn (by simp (disch := omega) only [lit_nI, nI_leI]; omega) ?_
    unfold wX10_take_44
    have hv : vp_in (nI k) 361 := vin (by omega) (by omega)
    refine wif (fun g => ?_) (fun g => ?_) <;> rw [nI_leI (by omega) (by omega)] at g
    · refine ⟨hv, ?_⟩
      rw [show (1 : Int32) = nI 1 from rfl, nI_add, ix_nI (by omega)]
      refine ih f (k + 1) _ (by omega) (by omega) (fun i h2 h3 => ?_)
      rw [upd_n (by omega)]; exact h1 i (by omega) h3
    · refine ⟨vin (by omega) (by omega), hv, ?_⟩
      rw [show (1 : Int32) = nI 1 from rfl, nI_add, ix_nI (by omega), hr k (by omega)]
      refine ih f (k + 1) _ (by omega) (by omega) (fun i h2 h3 => ?_)
      rw [upd_ite]
      by_cases e : i = k
      · rw [if_pos e, e]
      · rw [if_neg e]; exact h1 i (by omega) h3
theorem take_both {fu : Nat} {ln lt m1 m2 m3 m4 f sz ac nx tk t0 t1 : Int32} {le te m5 am ki di lev now us l0 l1 ik kp : Nat → Int32} {go : Nat → Int64} {Qc : Int32 → Int32 → (Nat → Int32) → Int32 → (Nat → Int32) → Prop} (hfu : 1000 ≤ fu) (hT : TI ln le lt te) (hA : AI f sz am ki go ac nx di tk lev now) (hS : SI us t0 l0 t1 l1 ik kp)
    (h : ∀ r sz' us' tk' lev', (∀ K : Int32 → Int32 → Int32 → Int32 → Int32 → Int32 → (Nat → Int32) → (Nat → Int32) → (Nat → Int32) → Prop, (∀ ac' z1 z2 z3 z4 ik' now' z5, AI f sz' am ki go ac' nx di tk' lev' now' → SI us' t0 l0 t1 l1 ik' kp → K r ac' z1 z2 z3 z4 ik' now' z5) → wp_X10_take fu lt te ac m1 m2 m3 m4 ik now m5 K) → Qc r sz' us' tk' lev') : wp_X9_take fu ln le sz us tk lev Qc := by
  obtain ⟨n, c, rfl, rfl, h1, h2⟩ := id hT
  obtain ⟨fN, a, x, S, T, rfl, rfl, rfl, rfl, hw, hm, hc⟩ := id hA
  obtain rfl := hw.1
  have n9 := oI_n9 (o := FF c n) (fun k e => FF_lt e)
  unfold wp_X9_take
  refine firstFault_ok (by omega) h1 ?_
  refine wif (fun g => ?_) (fun g => ?_) <;> rw [n9] at g
  · obtain ⟨k1, k2, k3⟩ := FF_none g
    have hb : Bt (TW c n).1 (TW c n).2 := by
      refine LY_Bt _ _ _ _ _ ?_ (fun i hi => by omega)
      rcases k2.2 with e | e <;> rw [e]
      · exact Or.inl rfl
      · exact Or.inr rfl
    have hmm : (TW c n).2 ≤ 360 := (LY_m 200 2 0 _ _ k3 (by omega)).2
    refine layOn_ok (by omega) h1 hw g (fun lev' hw' => ?_)
    unfold wp_X0_clear
    refine clearS_ok (by omega) (fun us' u0 u1 => ?_)
    refine h _ _ _ _ _ (fun K hK => ?_)
    unfold wp_X10_take
    refine readText_ok hfu h2 (fun _ pa lv' ten' rt' hr => wifp rfl ?_) (fun k e => by rw [g] at e; cases e)
    refine takeM_lp hmm hr (fun ik' now' i0 i1 hm' => ?_) 360 fu 0 now (by omega) (by omega) (fun i hi => by omega)
    refine hK _ _ _ _ _ _ _ _ ⟨fN, 0, x, fun _ => (TW c n).1, fun _ => (TW c n).2, rfl, rfl, rfl, rfl, hw', hm', CH_none hc.1 hc.2.2.1 hb⟩ ⟨⟨?_, Or.inl u0⟩, ⟨?_, Or.inl u1⟩⟩
    · rw [u0, i0]
    · rw [u1, i1]
  · refine h _ _ _ _ _ (fun K hK => ?_)
    unfold wp_X10_take
    refine readText_ok hfu h2 (fun e => absurd e g) (fun k e pa lv' rm' ten' rt' => wifn ?_ (hK _ _ _ _ _ _ _ _ hA hS))
    rw [show (-9 : Int32) = -nI 9 from rfl, nI_n9 (FF_lt e)]
    exact not_false
